def X12_madeFor_156 (rc4 : Int32 → Int32 → Int32 → Mem → Option (Int32 × Mem)) (rc52 : Int32 → Int32 → Int32 → Int32 → Int32 → Mem → Option (Int32 × Mem)) (rc113 : Int32 → Int32 → Int32 → Int32 → Int32 → Int32 → Mem → Option (Int32 × Mem)) (x1 : Int32) (x2 : Int32) (x3 : Int32) (x5 : Int32) (x7 : Int32) (y0 : Int32) (σ : Mem) : Option (Int32 × Mem) :=
  rc113 x1 x2 x3 x5 y0 (x7 + 1) σ
def X12_madeFor_151 (rc4 : Int32 → Int32 → Int32 → Mem → Option (Int32 × Mem)) (rc52 : Int32 → Int32 → Int32 → Int32 → Int32 → Mem → Option (Int32 × Mem)) (rc113 : Int32 → Int32 → Int32 → Int32 → Int32 → Int32 → Mem → Option (Int32 × Mem)) (x1 : Int32) (x2 : Int32) (x3 : Int32) (x5 : Int32) (x7 : Int32) (σ : Mem) : Option (Int32 × Mem) :=
  X12_madeFor_156 rc4 rc52 rc113 x1 x2 x3 x5 x7 (1 : Int32) σ
def X12_madeFor_155 (rc4 : Int32 → Int32 → Int32 → Mem → Option (Int32 × Mem)) (rc52 : Int32 → Int32 → Int32 → Int32 → Int32 → Mem → Option (Int32 × Mem)) (rc113 : Int32 → Int32 → Int32 → Int32 → Int32 → Int32 → Mem → Option (Int32 × Mem)) (x1 : Int32) (x2 : Int32) (x3 : Int32) (x5 : Int32) (x7 : Int32) (σ : Mem) : Option (Int32 × Mem) :=
  X12_madeFor_156 rc4 rc52 rc113 x1 x2 x3 x5 x7 (0 : Int32) σ
def X12_madeFor_113 (rc4 : Int32 → Int32 → Int32 → Mem → Option (Int32 × Mem)) (rc52 : Int32 → Int32 → Int32 → Int32 → Int32 → Mem → Option (Int32 × Mem)) : Nat → Int32 → Int32 → Int32 → Int32 → Int32 → Int32 → Mem → Option (Int32 × Mem)
  | 0, _, _, _, _, _, _, _ => none
  | f + 1, x1, x2, x3, x5, x6, x7, σ =>
    bd (ag σ 400 (4 : Int32)) fun r120 =>
    if r120 ≤ x7 then
      rc52 x1 x2 x3 x6 (x5 + 1) σ
    else
      if x6 = 0 then
        bd (X12_isOf σ x3 x7) fun r132 =>
        if r132 = 0 then
          X12_madeFor_155 rc4 rc52 (X12_madeFor_113 rc4 rc52 f) x1 x2 x3 x5 x7 σ
        else
          bd2 (X12_wouldLight x7 x5 (9 : Int32) σ) fun r145 σ145 =>
          if r145 = 0 then
            X12_madeFor_155 rc4 rc52 (X12_madeFor_113 rc4 rc52 f) x1 x2 x3 x5 x7 σ145
          else
            X12_madeFor_151 rc4 rc52 (X12_madeFor_113 rc4 rc52 f) x1 x2 x3 x5 x7 σ145
      else
        X12_madeFor_151 rc4 rc52 (X12_madeFor_113 rc4 rc52 f) x1 x2 x3 x5 x7 σ
def X12_madeFor_108 (rc4 : Int32 → Int32 → Int32 → Mem → Option (Int32 × Mem)) (rc52 : Int32 → Int32 → Int32 → Int32 → Int32 → Mem → Option (Int32 × Mem)) (x1 : Int32) (x2 : Int32) (x3 : Int32) (x5 : Int32) (y0 : Int32) (σ : Mem) : Option (Int32 × Mem) :=
  X12_madeFor_113 rc4 rc52 FU x1 x2 x3 x5 y0 (0 : Int32) σ
def X12_madeFor_174 (rc4 : Int32 → Int32 → Int32 → Mem → Option (Int32 × Mem)) (x1 : Int32) (x2 : Int32) (x3 : Int32) (x4 : Int32) (σ : Mem) : Option (Int32 × Mem) :=
  if x4 = 0 then
    rc4 x1 x2 (x3 + 1) σ
  else
    bd (X12_bits σ x3) fun r180 =>
    rc4 x1 r180 (x3 + 1) σ
def X12_madeFor_52 (rc4 : Int32 → Int32 → Int32 → Mem → Option (Int32 × Mem)) : Nat → Int32 → Int32 → Int32 → Int32 → Int32 → Mem → Option (Int32 × Mem)
  | 0, _, _, _, _, _, _ => none
  | f + 1, x1, x2, x3, x4, x5, σ =>
    bd (ag σ 400 (3 : Int32)) fun r59 =>
    if r59 ≤ x5 then
      X12_madeFor_174 rc4 x1 x2 x3 x4 σ
    else
      if x4 = 0 then
        X12_madeFor_174 rc4 x1 x2 x3 x4 σ
      else
        bd (X12_of σ x5 (2 : Int32)) fun r72 =>
        if r72 = x1 then
          bd (X12_of σ x5 (1 : Int32)) fun r83 =>
          if r83 = (1 : Int32) then
            X12_madeFor_52 rc4 f x1 x2 x3 x4 (x5 + 1) σ
          else
            bd2 (X12_lighters x5 (0 : Int32) σ) fun r97 σ97 =>
            if r97 = 0 then
              X12_madeFor_108 rc4 (X12_madeFor_52 rc4 f) x1 x2 x3 x5 (0 : Int32) σ97
            else
              X12_madeFor_108 rc4 (X12_madeFor_52 rc4 f) x1 x2 x3 x5 (1 : Int32) σ97
        else
          X12_madeFor_52 rc4 f x1 x2 x3 x4 (x5 + 1) σ
def X12_madeFor_46 (rc4 : Int32 → Int32 → Int32 → Mem → Option (Int32 × Mem)) (x1 : Int32) (x2 : Int32) (x3 : Int32) (σ : Mem) : Option (Int32 × Mem) :=
  X12_madeFor_52 rc4 FU x1 x2 x3 (1 : Int32) (0 : Int32) σ
def X12_madeFor_4 : Nat → Int32 → Int32 → Int32 → Mem → Option (Int32 × Mem)
  | 0, _, _, _, _ => none
  | f + 1, x1, x2, x3, σ =>
    if (64 : Int32) ≤ x3 then
      some (x2, σ)
    else
      bd (ag σ 400 (4 : Int32)) fun r17 =>
      if ((1 : Int32) <<< (r17 &&& 31)) ≤ x3 then
        X12_madeFor_4 f x1 x2 (x3 + 1) σ
      else
        bd (X12_isOf σ x3 x1) fun r24 =>
        if r24 = 0 then
          if x2 = (-1 : Int32) then
            X12_madeFor_46 (X12_madeFor_4 f) x1 x2 x3 σ
          else
            bd (X12_bits σ x3) fun r36 =>
            if r36 < x2 then
              X12_madeFor_46 (X12_madeFor_4 f) x1 x2 x3 σ
            else
              X12_madeFor_4 f x1 x2 (x3 + 1) σ
        else
          X12_madeFor_4 f x1 x2 (x3 + 1) σ
def X12_madeFor (x1 : Int32) (σ : Mem) : Option (Int32 × Mem) :=
  X12_madeFor_4 FU x1 (-1 : Int32) (0 : Int32) σ
def X12_madeUp_9 : Nat → Int32 → Int32 → Mem → Option (Int32 × Mem)
  | 0, _, _, _ => none
  | f + 1, x1, x2, σ =>
    bd (ag σ 400 (4 : Int32)) fun r15 =>
    if r15 ≤ x2 then
      some (x1, σ)
    else
      bd2 (X12_madeFor x2 σ) fun r21 σ21 =>
      if r21 = (-1 : Int32) then
        some ((-1 : Int32), σ21)
      else
        X12_madeUp_9 f (x1 + r21) (x2 + 1) σ21
def X12_madeUp (σ : Mem) : Option (Int32 × Mem) :=
  bd (pu σ 399 0 (0 : Int32)) fun σ2 =>
  X12_madeUp_9 FU (0 : Int32) (0 : Int32) σ2
def X12_areRows_62 (σ : Mem) (rc20 : Int32 → Int32 → Int32 → Option Int32) (x1 : Int32) (x3 : Int32) (y0 : Int32) : Option Int32 :=
  rc20 x1 y0 (x3 + 2)
def X12_areRows_61 (σ : Mem) (rc20 : Int32 → Int32 → Int32 → Option Int32) (x1 : Int32) (x3 : Int32) : Option Int32 :=
  X12_areRows_62 σ rc20 x1 x3 (0 : Int32)
def X12_areRows_20 (σ : Mem) : Nat → Int32 → Int32 → Int32 → Option Int32
  | 0, _, _, _ => none
  | f + 1, x1, x2, x3 =>
    if x1 ≤ x3 then
      bd (gb x2) fun _ =>
      some (x2)
    else
      if x2 = 0 then
        bd (gb x2) fun _ =>
        some (x2)
      else
        bd (ag σ 404 x3) fun r34 =>
        bd (ag σ 400 (3 : Int32)) fun r40 =>
        if r40 ≤ r34 then
          X12_areRows_61 σ (X12_areRows_20 σ f) x1 x3
        else
          bd (ag σ 404 (x3 + (1 : Int32))) fun r51 =>
          if (20 : Int32) < r51 then
            X12_areRows_61 σ (X12_areRows_20 σ f) x1 x3
          else
            X12_areRows_62 σ (X12_areRows_20 σ f) x1 x3 (1 : Int32)
def X12_areRows_17 (σ : Mem) (x1 : Int32) (y0 : Int32) : Option Int32 :=
  X12_areRows_20 σ FU x1 y0 (0 : Int32)
def X12_areRows_16 (σ : Mem) (x1 : Int32) : Option Int32 :=
  X12_areRows_17 σ x1 (0 : Int32)
def X12_areRows (σ : Mem) (x1 : Int32) : Option Int32 :=
  if (x1 - x1 / (2 : Int32) * (2 : Int32)) = 0 then
    if (40 : Int32) < x1 then
      X12_areRows_16 σ x1
    else
      X12_areRows_17 σ x1 (1 : Int32)
  else
    X12_areRows_16 σ x1
def X12_places_48 (σ : Mem) (rc8 : Int32 → Int32 → Int32 → Option Int32) (rc15 : Int32 → Int32 → Int32 → Int32 → Option Int32) (x1 : Int32) (x3 : Int32) (x4 : Int32) (y0 : Int32) (y1 : Int32) : Option Int32 :=
  rc15 x1 (y0 &&& y1) x3 (x4 + 2)
def X12_places_15 (σ : Mem) (rc8 : Int32 → Int32 → Int32 → Option Int32) : Nat → Int32 → Int32 → Int32 → Int32 → Option Int32
  | 0, _, _, _, _ => none
  | f + 1, x1, x2, x3, x4 =>
    if x1 ≤ x4 then
      if x3 ≤ 0 then
        rc8 x1 x2 (x3 + (-1))
      else
        bd (X12_nextTo σ x2) fun r63 =>
        rc8 x1 (x2 ||| r63) (x3 + (-1))
    else
      bd (ag σ 404 (x4 + (1 : Int32))) fun r30 =>
      if r30 = x3 then
        bd (ag σ 404 x4) fun r42 =>
        X12_places_48 σ rc8 (X12_places_15 σ rc8 f) x1 x3 x4 x2 ((1 : Int32) <<< (r42 &&& 31))
      else
        X12_places_48 σ rc8 (X12_places_15 σ rc8 f) x1 x3 x4 x2 x2
def X12_places_8 (σ : Mem) : Nat → Int32 → Int32 → Int32 → Option Int32
  | 0, _, _, _ => none
  | f + 1, x1, x2, x3 =>
    if x3 < 0 then
      some (x2)
    else
      X12_places_15 σ (X12_places_8 σ f) FU x1 x2 x3 (0 : Int32)
def X12_places (σ : Mem) (x1 : Int32) : Option Int32 :=
  bd (X12_allPanes σ) fun r1 =>
  X12_places_8 σ FU x1 r1 (20 : Int32)
def X12_whoLit_24 (x1 : Int32) (y1 : Int32) (σ : Mem) : Option (Int32 × Mem) :=
  bd (pu σ 399 0 y1) fun σ24 =>
  if (σ24 399 0) ≤ 0 then
    bd (X12_places σ24 x1) fun r40 =>
    some (r40, σ24)
  else
    some ((0 : Int32), σ24)
def X12_whoLit (σ : Mem) : Option (Int32 × Mem) :=
  bd (pu σ 399 8 (0 : Int32)) fun σ7 =>
  bd (X12_areRows σ7 (σ 399 8)) fun r13 =>
  if r13 = 0 then
    X12_whoLit_24 (σ 399 8) (1 : Int32) σ7
  else
    X12_whoLit_24 (σ 399 8) (0 : Int32) σ7
def X12_asFar_49 (σ : Mem) (rc6 : Int32 → Int32 → Int32 → Int32 → Int32 → Option Int32) (x1 : Int32) (x2 : Int32) (x3 : Int32) (x5 : Int32) (y0 : Int32) (y1 : Int32) : Option Int32 :=
  rc6 x1 x2 x3 (y0 + y1) (x5 + 1)
def X12_asFar_48 (σ : Mem) (rc6 : Int32 → Int32 → Int32 → Int32 → Int32 → Option Int32) (x1 : Int32) (x2 : Int32) (x3 : Int32) (x5 : Int32) (y0 : Int32) : Option Int32 :=
  X12_asFar_49 σ rc6 x1 x2 x3 x5 y0 (0 : Int32)
def X12_asFar_6 (σ : Mem) : Nat → Int32 → Int32 → Int32 → Int32 → Int32 → Option Int32
  | 0, _, _, _, _, _ => none
  | f + 1, x1, x2, x3, x4, x5 =>
    bd (ag σ 400 (3 : Int32)) fun r13 =>
    if r13 ≤ x5 then
      some (x4)
    else
      bd (X12_isOf σ x1 x5) fun r22 =>
      if r22 = 0 then
        X12_asFar_48 σ (X12_asFar_6 σ f) x1 x2 x3 x5 x4
      else
        bd (X12_farOf σ x2 x5) fun r32 =>
        bd (X12_farOf σ x2 x3) fun r38 =>
        if r32 = r38 then
          X12_asFar_49 σ (X12_asFar_6 σ f) x1 x2 x3 x5 x4 (1 : Int32)
        else
          X12_asFar_48 σ (X12_asFar_6 σ f) x1 x2 x3 x5 x4
def X12_asFar (σ : Mem) (x1 : Int32) (x2 : Int32) (x3 : Int32) : Option Int32 :=
  X12_asFar_6 σ FU x1 x2 x3 (0 : Int32) (0 : Int32)
def X12_ask_77 (rc52 : Int32 → Int32 → Int32 → Int32 → Mem → Option (Int32 × Mem)) : Nat → Int32 → Int32 → Int32 → Int32 → Int32 → Int32 → Mem → Option (Int32 × Mem)
  | 0, _, _, _, _, _, _, _ => none
  | f + 1, x2, x3, x4, x5, x6, x7, σ =>
    bd (ag σ 400 (3 : Int32)) fun r84 =>
    if r84 ≤ x7 then
      if x6 < x4 then
        rc52 x2 x5 x6 (x5 + 1) σ
      else
        rc52 x2 x3 x4 (x5 + 1) σ
    else
      bd (X12_isOf σ x2 x7) fun r91 =>
      if r91 = 0 then
        X12_ask_77 rc52 f x2 x3 x4 x5 x6 (x7 + 1) σ
      else
        bd (X12_asFar σ x2 x5 x7) fun r105 =>
        bd (X12_greater σ x6 r105) fun r108 =>
        X12_ask_77 rc52 f x2 x3 x4 x5 r108 (x7 + 1) σ
def X12_ask_52 : Nat → Int32 → Int32 → Int32 → Int32 → Mem → Option (Int32 × Mem)
  | 0, _, _, _, _, _ => none
  | f + 1, x2, x3, x4, x5, σ =>
    bd (ag σ 400 (3 : Int32)) fun r59 =>
    if r59 ≤ x5 then
      some (x3, σ)
    else
      bd (X12_bits σ x2) fun r64 =>
      if r64 ≤ (1 : Int32) then
        some (x3, σ)
      else
        X12_ask_77 (X12_ask_52 f) FU x2 x3 x4 x5 (0 : Int32) (0 : Int32) σ
def X12_ask_24 (x1 : Int32) (y1 : Int32) (σ : Mem) : Option (Int32 × Mem) :=
  bd (pu σ 399 0 y1) fun σ24 =>
  if (σ24 399 0) ≤ 0 then
    bd (X12_places σ24 x1) fun r38 =>
    X12_ask_52 FU r38 (-1 : Int32) (2000000000 : Int32) (0 : Int32) σ24
  else
    some ((0 : Int32), σ24)
def X12_ask (σ : Mem) : Option (Int32 × Mem) :=
  bd (pu σ 399 8 (0 : Int32)) fun σ7 =>
  bd (X12_areRows σ7 (σ 399 8)) fun r13 =>
  if r13 = 0 then
    X12_ask_24 (σ 399 8) (1 : Int32) σ7
  else
    X12_ask_24 (σ 399 8) (0 : Int32) σ7
def X12_pointsTo (x1 : Int32) (σ : Mem) : Option (Int32 × Mem) :=
  bd2 (X12_turnOf x1 σ) fun r2 σ2 =>
  if r2 = (-1 : Int32) then
    some ((-1 : Int32), σ2)
  else
    bd (X12_of σ2 r2 (2 : Int32)) fun r18 =>
    some (r18, σ2)
def X12_ring_62 (x1 : Int32) (x2 : Int32) (σ : Mem) : Option (Int32 × Mem) :=
  if x2 = x1 then
    bd (gb (1 : Int32)) fun _ =>
    some ((1 : Int32), σ)
  else
    bd (gb (0 : Int32)) fun _ =>
    some ((0 : Int32), σ)
def X12_ring_34 : Nat → Int32 → Int32 → Int32 → Mem → Option (Int32 × Mem)
  | 0, _, _, _, _ => none
  | f + 1, x1, x2, x3, σ =>
    if (6 : Int32) ≤ x3 then
      X12_ring_62 x1 x2 σ
    else
      if x2 = (-1 : Int32) then
        X12_ring_62 x1 x2 σ
      else
        if x2 = x1 then
          X12_ring_62 x1 x2 σ
        else
          bd2 (X12_pointsTo x2 σ) fun r52 σ52 =>
          X12_ring_34 f x1 r52 (x3 + 1) σ52
def X12_ring_14 (x1 : Int32) (y1 : Int32) (σ : Mem) : Option (Int32 × Mem) :=
  bd (pu σ 399 0 y1) fun σ14 =>
  if (σ14 399 0) ≤ 0 then
    bd2 (X12_pointsTo x1 σ14) fun r28 σ28 =>
    X12_ring_34 FU x1 r28 (0 : Int32) σ28
  else
    bd (gb (0 : Int32)) fun _ =>
    some ((0 : Int32), σ14)
def X12_ring (x1 : Int32) (σ : Mem) : Option (Int32 × Mem) :=
  bd (X12_isWalker σ x1) fun r3 =>
  if r3 = 0 then
    X12_ring_14 x1 (1 : Int32) σ
  else
    X12_ring_14 x1 (0 : Int32) σ
def X12_both (σ : Mem) (x1 : Int32) (x2 : Int32) : Option Int32 :=
  bd (X12_liking σ x1 x2) fun r3 =>
  bd (X12_liking σ x2 x1) fun r9 =>
  some ((r3 + r9))
def X12_sides_86 (rc11 : Int32 → Int32 → Int32 → Mem → Option (Int32 × Mem)) (rc29 : Int32 → Int32 → Int32 → Int32 → Int32 → Mem → Option (Int32 × Mem)) (rc46 : Int32 → Int32 → Int32 → Int32 → Int32 → Int32 → Mem → Option (Int32 × Mem)) (x1 : Int32) (x2 : Int32) (x3 : Int32) (x5 : Int32) (x6 : Int32) (y0 : Int32) (y1 : Int32) (σ : Mem) : Option (Int32 × Mem) :=
  rc46 x1 x2 x3 (y0 + y1) x5 (x6 + 1) σ
def X12_sides_46 (rc11 : Int32 → Int32 → Int32 → Mem → Option (Int32 × Mem)) (rc29 : Int32 → Int32 → Int32 → Int32 → Int32 → Mem → Option (Int32 × Mem)) : Nat → Int32 → Int32 → Int32 → Int32 → Int32 → Int32 → Mem → Option (Int32 × Mem)
  | 0, _, _, _, _, _, _, _ => none
  | f + 1, x1, x2, x3, x4, x5, x6, σ =>
    bd (ag σ 400 (4 : Int32)) fun r53 =>
    if r53 ≤ x6 then
      rc29 x1 x2 x3 x4 (x5 + 1) σ
    else
      bd (X12_isOf σ x3 x5) fun r62 =>
      bd (X12_isOf σ x3 x6) fun r68 =>
      if r62 = r68 then
        bd (X12_both σ x5 x6) fun r79 =>
        X12_sides_86 rc11 rc29 (X12_sides_46 rc11 rc29 f) x1 x2 x3 x5 x6 x4 r79 σ
      else
        X12_sides_86 rc11 rc29 (X12_sides_46 rc11 rc29 f) x1 x2 x3 x5 x6 x4 (0 : Int32) σ
def X12_sides_29 (rc11 : Int32 → Int32 → Int32 → Mem → Option (Int32 × Mem)) : Nat → Int32 → Int32 → Int32 → Int32 → Int32 → Mem → Option (Int32 × Mem)
  | 0, _, _, _, _, _, _ => none
  | f + 1, x1, x2, x3, x4, x5, σ =>
    bd (ag σ 400 (4 : Int32)) fun r36 =>
    if r36 ≤ x5 then
      if x2 < x4 then
        rc11 x3 x4 (x3 + 2) σ
      else
        rc11 x1 x2 (x3 + 2) σ
    else
      X12_sides_46 rc11 (X12_sides_29 rc11 f) FU x1 x2 x3 x4 x5 (x5 + (1 : Int32)) σ
def X12_sides_11 : Nat → Int32 → Int32 → Int32 → Mem → Option (Int32 × Mem)
  | 0, _, _, _, _ => none
  | f + 1, x1, x2, x3, σ =>
    bd (ag σ 400 (4 : Int32)) fun r18 =>
    if ((1 : Int32) <<< (r18 &&& 31)) ≤ x3 then
      some (x1, σ)
    else
      X12_sides_29 (X12_sides_11 f) FU x1 x2 x3 (0 : Int32) (0 : Int32) σ
def X12_sides (σ : Mem) : Option (Int32 × Mem) :=
  bd (pu σ 399 0 (0 : Int32)) fun σ2 =>
  X12_sides_11 FU (-1 : Int32) (-1 : Int32) (2 : Int32) σ2
def X12_lowest_2 (σ : Mem) : Nat → Int32 → Int32 → Option Int32
  | 0, _, _ => none
  | f + 1, x0, x1 =>
    bd (X12_isOf σ x0 x1) fun r4 =>
    if r4 = 0 then
      X12_lowest_2 σ f x0 (x1 + 1)
    else
      some (x1)
def X12_lowest (σ : Mem) (x0 : Int32) : Option Int32 :=
  X12_lowest_2 σ FU x0 (0 : Int32)
def X12_mayPair (σ : Mem) (x1 : Int32) (x2 : Int32) : Option Int32 :=
  bd (X12_ofWalker σ x1 (0 : Int32)) fun r4 =>
  bd (X12_ofWalker σ x2 (0 : Int32)) fun r10 =>
  bd (X12_farOf σ r4 r10) fun r13 =>
  if r13 = (-1 : Int32) then
    bd (gb (0 : Int32)) fun _ =>
    some ((0 : Int32))
  else
    bd (gb (1 : Int32)) fun _ =>
    some ((1 : Int32))
def X12_allBest_51 (rc9 : Int32 → Mem → Option Mem) : Nat → Int32 → Int32 → Int32 → Int32 → Mem → Option Mem
  | 0, _, _, _, _, _ => none
  | f + 1, x1, x2, x3, x4, σ =>
    bd (ag σ 400 (4 : Int32)) fun r58 =>
    if r58 ≤ x4 then
      rc9 (x1 + 1) σ
    else
      bd (X12_isOf σ x3 x4) fun r65 =>
      if r65 = 0 then
        X12_allBest_51 rc9 f x1 x2 x3 (x4 + 1) σ
      else
        bd (X12_mayPair σ x2 x4) fun r75 =>
        if r75 = 0 then
          X12_allBest_51 rc9 f x1 x2 x3 (x4 + 1) σ
        else
          bd (ag σ 408 x1) fun r91 =>
          bd (X12_both σ x2 x4) fun r96 =>
          bd (ag σ 408 (x3 &&& (((1 : Int32) <<< (x4 &&& 31)) ^^^ (-1 : Int32)))) fun r111 =>
          bd (X12_greater σ r91 (r96 + r111)) fun r113 =>
          bd (au σ 408 x1 r113) fun σ116 =>
          X12_allBest_51 rc9 f x1 x2 x3 (x4 + 1) σ116
def X12_allBest_9 : Nat → Int32 → Mem → Option Mem
  | 0, _, _ => none
  | f + 1, x1, σ =>
    bd (ag σ 400 (4 : Int32)) fun r16 =>
    if ((1 : Int32) <<< (r16 &&& 31)) ≤ x1 then
      some σ
    else
      bd (X12_lowest σ x1) fun r22 =>
      bd (some ((x1 &&& (((1 : Int32) <<< (r22 &&& 31)) ^^^ (-1 : Int32))))) fun v33 =>
      bd (ag σ 408 v33) fun r44 =>
      bd (au σ 408 x1 r44) fun σ45 =>
      X12_allBest_51 (X12_allBest_9 f) FU x1 r22 v33 (r22 + (1 : Int32)) σ45
def X12_allBest (σ : Mem) : Option Mem :=
  bd (au σ 408 (0 : Int32) (0 : Int32)) fun σ6 =>
  X12_allBest_9 FU (1 : Int32) σ6
def X12_pairs_208 (rc58 : Int32 → Int32 → Mem → Option (Int32 × Mem)) (x1 : Int32) (y0 : Int32) (σ : Mem) : Option (Int32 × Mem) :=
  rc58 x1 y0 σ
def X12_pairs_172 (rc58 : Int32 → Int32 → Mem → Option (Int32 × Mem)) (x1 : Int32) (x3 : Int32) (x4 : Int32) (x5 : Int32) (σ : Mem) : Option (Int32 × Mem) :=
  if x3 = x1 then
    some (x5, σ)
  else
    if x5 = x1 then
      some (x3, σ)
    else
      if x5 = (-1 : Int32) then
        X12_pairs_208 rc58 x1 x4 σ
      else
        X12_pairs_208 rc58 x1 (x4 &&& (((1 : Int32) <<< (x5 &&& 31)) ^^^ (-1 : Int32))) σ
def X12_pairs_89 (rc58 : Int32 → Int32 → Mem → Option (Int32 × Mem)) : Nat → Int32 → Int32 → Int32 → Int32 → Int32 → Int32 → Mem → Option (Int32 × Mem)
  | 0, _, _, _, _, _, _, _ => none
  | f + 1, x1, x2, x3, x4, x5, x6, σ =>
    if x6 ≤ x3 then
      X12_pairs_172 rc58 x1 x3 x4 x5 σ
    else
      bd (ag σ 408 x4) fun r101 =>
      bd (ag σ 408 x2) fun r107 =>
      if r101 = r107 then
        X12_pairs_172 rc58 x1 x3 x4 x5 σ
      else
        bd (X12_isOf σ x4 x6) fun r115 =>
        if r115 = 0 then
          X12_pairs_89 rc58 f x1 x2 x3 x4 x5 (x6 + (-1)) σ
        else
          bd (X12_mayPair σ x3 x6) fun r125 =>
          if r125 = 0 then
            X12_pairs_89 rc58 f x1 x2 x3 x4 x5 (x6 + (-1)) σ
          else
            bd (X12_both σ x3 x6) fun r135 =>
            bd (ag σ 408 (x4 &&& (((1 : Int32) <<< (x6 &&& 31)) ^^^ (-1 : Int32)))) fun r151 =>
            bd (ag σ 408 x2) fun r158 =>
            if (r135 + r151) = r158 then
              X12_pairs_89 rc58 f x1 x2 x3 x4 x6 (x6 + (-1)) σ
            else
              X12_pairs_89 rc58 f x1 x2 x3 x4 x5 (x6 + (-1)) σ
def X12_pairs_58 : Nat → Int32 → Int32 → Mem → Option (Int32 × Mem)
  | 0, _, _, _ => none
  | f + 1, x1, x2, σ =>
    if x2 = 0 then
      some ((-1 : Int32), σ)
    else
      bd (X12_lowest σ x2) fun r63 =>
      bd (some ((x2 &&& (((1 : Int32) <<< (r63 &&& 31)) ^^^ (-1 : Int32))))) fun v74 =>
      bd (ag σ 400 (4 : Int32)) fun r84 =>
      X12_pairs_89 (X12_pairs_58 f) FU x1 x2 r63 v74 (-1 : Int32) (r84 - (1 : Int32)) σ
def X12_pairs_19 (x1 : Int32) (y1 : Int32) (σ : Mem) : Option (Int32 × Mem) :=
  bd (pu σ 399 0 y1) fun σ19 =>
  if (σ19 399 0) ≤ 0 then
    bd (X12_allBest σ19) fun σ32 =>
    bd (ag σ32 400 (4 : Int32)) fun r41 =>
    if x1 = (-1 : Int32) then
      bd (ag σ32 408 (((1 : Int32) <<< (r41 &&& 31)) - (1 : Int32))) fun r56 =>
      some (r56, σ32)
    else
      X12_pairs_58 FU x1 (((1 : Int32) <<< (r41 &&& 31)) - (1 : Int32)) σ32
  else
    some ((0 : Int32), σ19)
def X12_pairs_18 (x1 : Int32) (σ : Mem) : Option (Int32 × Mem) :=
  X12_pairs_19 x1 (0 : Int32) σ
def X12_pairs (x1 : Int32) (σ : Mem) : Option (Int32 × Mem) :=
  if x1 = (-1 : Int32) then
    X12_pairs_18 x1 σ
  else
    bd (X12_isWalker σ x1) fun r8 =>
    if r8 = 0 then
      X12_pairs_19 x1 (1 : Int32) σ
    else
      X12_pairs_18 x1 σ
def X12_isRow (σ : Mem) (x1 : Int32) : Option Int32 :=
  bd (ag σ 404 x1) fun r5 =>
  bd (ag σ 400 (4 : Int32)) fun r11 =>
  if r11 ≤ r5 then
    bd (gb (0 : Int32)) fun _ =>
    some ((0 : Int32))
  else
    bd (ag σ 404 (x1 + (1 : Int32))) fun r22 =>
    bd (ag σ 400 (3 : Int32)) fun r28 =>
    if r28 ≤ r22 then
      bd (gb (0 : Int32)) fun _ =>
      some ((0 : Int32))
    else
      bd (ag σ 404 (x1 + (2 : Int32))) fun r39 =>
      if r39 ≤ (1 : Int32) then
        bd (ag σ 404 (x1 + (1 : Int32))) fun r54 =>
        bd (X12_of σ r54 (2 : Int32)) fun r56 =>
        if r56 = (-1 : Int32) then
          bd (gb (0 : Int32)) fun _ =>
          some ((0 : Int32))
        else
          bd (ag σ 404 (x1 + (1 : Int32))) fun r71 =>
          bd (X12_of σ r71 (2 : Int32)) fun r73 =>
          bd (ag σ 404 x1) fun r81 =>
          if r73 = r81 then
            bd (gb (0 : Int32)) fun _ =>
            some ((0 : Int32))
          else
            bd (gb (1 : Int32)) fun _ =>
            some ((1 : Int32))
      else
        bd (gb (0 : Int32)) fun _ =>
        some ((0 : Int32))
def X12_learnt_158 (rc78 : Int32 → Int32 → Int32 → Mem → Option (Int32 × Mem)) (rc91 : Int32 → Int32 → Int32 → Int32 → Int32 → Mem → Option (Int32 × Mem)) (x1 : Int32) (x3 : Int32) (x4 : Int32) (x6 : Int32) (y0 : Int32) (σ : Mem) : Option (Int32 × Mem) :=
  rc91 x1 x3 x4 y0 (x6 + 3) σ
def X12_learnt_150 (rc78 : Int32 → Int32 → Int32 → Mem → Option (Int32 × Mem)) (rc91 : Int32 → Int32 → Int32 → Int32 → Int32 → Mem → Option (Int32 × Mem)) (x1 : Int32) (x3 : Int32) (x4 : Int32) (x6 : Int32) (y0 : Int32) (y1 : Int32) (σ : Mem) : Option (Int32 × Mem) :=
  if y0 = y1 then
    X12_learnt_158 rc78 rc91 x1 x3 x4 x6 (1 : Int32) σ
  else
    X12_learnt_158 rc78 rc91 x1 x3 x4 x6 (0 : Int32) σ
def X12_learnt_132 (rc78 : Int32 → Int32 → Int32 → Mem → Option (Int32 × Mem)) (rc91 : Int32 → Int32 → Int32 → Int32 → Int32 → Mem → Option (Int32 × Mem)) (x1 : Int32) (x3 : Int32) (x4 : Int32) (x6 : Int32) (y0 : Int32) (σ : Mem) : Option (Int32 × Mem) :=
  bd (ag σ 404 (x6 + (2 : Int32))) fun r140 =>
  if r140 = (1 : Int32) then
    X12_learnt_150 rc78 rc91 x1 x3 x4 x6 y0 (1 : Int32) σ
  else
    X12_learnt_150 rc78 rc91 x1 x3 x4 x6 y0 (0 : Int32) σ
def X12_learnt_180 (rc78 : Int32 → Int32 → Int32 → Mem → Option (Int32 × Mem)) (x1 : Int32) (x4 : Int32) (y0 : Int32) (y1 : Int32) (σ : Mem) : Option (Int32 × Mem) :=
  rc78 x1 (y0 ||| y1) (x4 + 1) σ
def X12_learnt_166 (rc78 : Int32 → Int32 → Int32 → Mem → Option (Int32 × Mem)) (x1 : Int32) (x3 : Int32) (x4 : Int32) (x5 : Int32) (σ : Mem) : Option (Int32 × Mem) :=
  if x5 = 0 then
    X12_learnt_180 rc78 x1 x4 x3 (0 : Int32) σ
  else
    X12_learnt_180 rc78 x1 x4 x3 ((1 : Int32) <<< (x4 &&& 31)) σ
def X12_learnt_91 (rc78 : Int32 → Int32 → Int32 → Mem → Option (Int32 × Mem)) : Nat → Int32 → Int32 → Int32 → Int32 → Int32 → Mem → Option (Int32 × Mem)
  | 0, _, _, _, _, _, _ => none
  | f + 1, x1, x3, x4, x5, x6, σ =>
    if x1 ≤ x6 then
      X12_learnt_166 rc78 x1 x3 x4 x5 σ
    else
      if x5 = 0 then
        X12_learnt_166 rc78 x1 x3 x4 x5 σ
      else
        bd (ag σ 404 x6) fun r109 =>
        bd (ag σ 404 (x6 + (1 : Int32))) fun r118 =>
        bd (X12_likesOwner σ r109 r118) fun r119 =>
        if r119 < x4 then
          X12_learnt_132 rc78 (X12_learnt_91 rc78 f) x1 x3 x4 x6 (0 : Int32) σ
        else
          X12_learnt_132 rc78 (X12_learnt_91 rc78 f) x1 x3 x4 x6 (1 : Int32) σ
def X12_learnt_78 : Nat → Int32 → Int32 → Int32 → Mem → Option (Int32 × Mem)
  | 0, _, _, _, _ => none
  | f + 1, x1, x3, x4, σ =>
    if (10 : Int32) ≤ x4 then
      some (x3, σ)
    else
      X12_learnt_91 (X12_learnt_78 f) FU x1 x3 x4 (1 : Int32) (0 : Int32) σ
def X12_learnt_61 (x1 : Int32) (y1 : Int32) (σ : Mem) : Option (Int32 × Mem) :=
  bd (pu σ 399 0 y1) fun σ61 =>
  if (σ61 399 0) ≤ 0 then
    X12_learnt_78 FU x1 (0 : Int32) (1 : Int32) σ61
  else
    some ((0 : Int32), σ61)
def X12_learnt_51 (x1 : Int32) (x2 : Int32) (σ : Mem) : Option (Int32 × Mem) :=
  if x2 = 0 then
    X12_learnt_61 x1 (1 : Int32) σ
  else
    X12_learnt_61 x1 (0 : Int32) σ
def X12_learnt_30 : Nat → Int32 → Int32 → Int32 → Mem → Option (Int32 × Mem)
  | 0, _, _, _, _ => none
  | f + 1, x1, x2, x3, σ =>
    if x1 ≤ x3 then
      X12_learnt_51 x1 x2 σ
    else
      if x2 = 0 then
        X12_learnt_51 x1 x2 σ
      else
        bd (X12_isRow σ x3) fun r41 =>
        X12_learnt_30 f x1 r41 (x3 + 3) σ
def X12_learnt_27 (x1 : Int32) (y0 : Int32) (σ : Mem) : Option (Int32 × Mem) :=
  X12_learnt_30 FU x1 y0 (0 : Int32) σ
def X12_learnt_26 (x1 : Int32) (σ : Mem) : Option (Int32 × Mem) :=
  X12_learnt_27 x1 (0 : Int32) σ
def X12_learnt (σ : Mem) : Option (Int32 × Mem) :=
  bd (pu σ 399 8 (0 : Int32)) fun σ7 =>
  if ((σ 399 8) - (σ 399 8) / (3 : Int32) * (3 : Int32)) = 0 then
    if (39 : Int32) < (σ 399 8) then
      X12_learnt_26 (σ 399 8) σ7
    else
      X12_learnt_27 (σ 399 8) (1 : Int32) σ7
  else
    X12_learnt_26 (σ 399 8) σ7
def X12_share_58 (rc47 : Int32 → Int32 → Int32 → Mem → Option (Int32 × Mem)) : Nat → Int32 → Int32 → Int32 → Int32 → Int32 → Mem → Option (Int32 × Mem)
  | 0, _, _, _, _, _, _ => none
  | f + 1, x1, x2, x3, x4, x5, σ =>
    bd (ag σ 400 (3 : Int32)) fun r65 =>
    if r65 ≤ x5 then
      bd (X12_of σ x4 (0 : Int32)) fun r106 =>
      bd (X12_lesser σ (99 : Int32) (r106 + (1 : Int32))) fun r111 =>
      bd (X12_lays x4 (0 : Int32) r111 σ) fun σ114 =>
      rc47 x1 x2 (x3 + 1) σ114
    else
      bd (X12_of σ x5 (0 : Int32)) fun r73 =>
      bd (X12_of σ x4 (0 : Int32)) fun r80 =>
      if r80 ≤ r73 then
        X12_share_58 rc47 f x1 x2 x3 x4 (x5 + 1) σ
      else
        X12_share_58 rc47 f x1 x2 x3 x5 (x5 + 1) σ
def X12_share_47 : Nat → Int32 → Int32 → Int32 → Mem → Option (Int32 × Mem)
  | 0, _, _, _, _ => none
  | f + 1, x1, x2, x3, σ =>
    if x2 ≤ x3 then
      bd (X12_of σ x1 (0 : Int32)) fun r126 =>
      bd (X12_comesBack σ) fun σ131 =>
      some (r126, σ131)
    else
      X12_share_58 (X12_share_47 f) FU x1 x2 x3 (0 : Int32) (1 : Int32) σ
def X12_share_29 (x1 : Int32) (x2 : Int32) (y1 : Int32) (σ : Mem) : Option (Int32 × Mem) :=
  bd (pu σ 399 0 y1) fun σ29 =>
  if (σ29 399 0) ≤ 0 then
    bd (X12_putsAside σ29) fun σ42 =>
    X12_share_47 FU x1 x2 (0 : Int32) σ42
  else
    some ((0 : Int32), σ29)
def X12_share (x1 : Int32) (x2 : Int32) (σ : Mem) : Option (Int32 × Mem) :=
  bd (X12_isPane σ x1) fun r3 =>
  if r3 = 0 then
    X12_share_29 x1 x2 (1 : Int32) σ
  else
    bd (X12_isIn σ x2 (0 : Int32) (999 : Int32)) fun r18 =>
    if r18 = 0 then
      X12_share_29 x1 x2 (2 : Int32) σ
    else
      X12_share_29 x1 x2 (0 : Int32) σ
def X12_hasBy (σ : Mem) (x1 : Int32) (x2 : Int32) (x3 : Int32) (x4 : Int32) : Option Int32 :=
  if x3 = (1 : Int32) then
    if x4 = 0 then
      some ((4 : Int32))
    else
      some ((0 : Int32))
  else
    if x4 = 0 then
      bd (X12_liking σ x1 x2) fun r24 =>
      some ((r24 - (3 : Int32)))
    else
      some ((-2 : Int32))
def X12_rests_20 : Nat → Int32 → Int32 → Int32 → Int32 → Mem → Option (Int32 × Mem)
  | 0, _, _, _, _, _ => none
  | f + 1, x1, x2, x3, x4, σ =>
    if (4 : Int32) ≤ x4 then
      some (x3, σ)
    else
      bd (X12_hasBy σ x1 x2 ((1 : Int32) - (x4 / (2 : Int32))) (x4 - x4 / (2 : Int32) * (2 : Int32))) fun r47 =>
      bd (X12_hasBy σ x1 x2 (x4 / (2 : Int32)) (x4 - x4 / (2 : Int32) * (2 : Int32))) fun r57 =>
      if r57 < r47 then
        X12_rests_20 f x1 x2 x3 (x4 + 1) σ
      else
        bd (X12_hasBy σ x2 x1 ((1 : Int32) - (x4 - x4 / (2 : Int32) * (2 : Int32))) (x4 / (2 : Int32))) fun r72 =>
        bd (X12_hasBy σ x2 x1 (x4 - x4 / (2 : Int32) * (2 : Int32)) (x4 / (2 : Int32))) fun r82 =>
        if r82 < r72 then
          X12_rests_20 f x1 x2 x3 (x4 + 1) σ
        else
          X12_rests_20 f x1 x2 (x3 ||| ((1 : Int32) <<< (x4 &&& 31))) (x4 + 1) σ
def X12_rests (x1 : Int32) (x2 : Int32) (σ : Mem) : Option (Int32 × Mem) :=
  bd (X12_areTwo x1 x2 σ) fun σ3 =>
  if (σ3 399 0) ≤ 0 then
    X12_rests_20 FU x1 x2 (0 : Int32) (0 : Int32) σ3
  else
    some ((0 : Int32), σ3)
section WALK
variable {p : Program} {l : Launch} {e : Env} {s : State} {m : MethodId} {args : Array Value} {below : List Frame} {meth : Method} {c : Code} {E : GE}
set_option maxRecDepth 20000 in
theorem w_X12_madeFor_156 {r : (Int32 × Mem)} {σ : Mem} {rc4 : Int32 → Int32 → Int32 → Mem → Option (Int32 × Mem)} {rc52 : Int32 → Int32 → Int32 → Int32 → Int32 → Mem → Option (Int32 × Mem)} {rc113 : Int32 → Int32 → Int32 → Int32 → Int32 → Int32 → Mem → Option (Int32 × Mem)} {x1 : Int32} {x2 : Int32} {x3 : Int32} {x5 : Int32} {x7 : Int32} {y0 : Int32} {ls : Array Slot} {H : Heap} {locs : List Loc} (C : Cx p s m args meth c cX12_madeFor (some .int) 8 RX12) (G : Gf E s) (hr4 : ∀ {x1 : Int32} {x2 : Int32} {x3 : Int32} {σ : Mem} {ls : Array Slot} {H : Heap} {locs : List Loc}, Hx E σ s H locs → lv_has ls 8 [(0, .ref (gB E + 399)), (1, .int x1), (2, .int x2), (3, .int x3)] → rc4 x1 x2 x3 σ = some r → W p l e (RM 207) s m args below meth c H locs 0 0 (QI E below args s r.1 r.2) (F0 m 4 ls [])) (hr52 : ∀ {x1 : Int32} {x2 : Int32} {x3 : Int32} {x4 : Int32} {x5 : Int32} {σ : Mem} {ls : Array Slot} {H : Heap} {locs : List Loc}, Hx E σ s H locs → lv_has ls 8 [(0, .ref (gB E + 399)), (1, .int x1), (2, .int x2), (3, .int x3), (4, .int x4), (5, .int x5)] → rc52 x1 x2 x3 x4 x5 σ = some r → W p l e (RM 207) s m args below meth c H locs 0 0 (QI E below args s r.1 r.2) (F0 m 52 ls [])) (hr113 : ∀ {x1 : Int32} {x2 : Int32} {x3 : Int32} {x5 : Int32} {x6 : Int32} {x7 : Int32} {σ : Mem} {ls : Array Slot} {H : Heap} {locs : List Loc}, Hx E σ s H locs → lv_has ls 8 [(0, .ref (gB E + 399)), (1, .int x1), (2, .int x2), (3, .int x3), (5, .int x5), (6, .int x6), (7, .int x7)] → rc113 x1 x2 x3 x5 x6 x7 σ = some r → W p l e (RM 207) s m args below meth c H locs 0 0 (QI E below args s r.1 r.2) (F0 m 113 ls [])) (X : Hx E σ s H locs) (hl : lv_has ls 8 [(0, .ref (gB E + 399)), (1, .int x1), (2, .int x2), (3, .int x3), (5, .int x5), (7, .int x7)]) (h : X12_madeFor_156 rc4 rc52 rc113 x1 x2 x3 x5 x7 y0 σ = some r) : W p l e (RM 207) s m args below meth c H locs 0 0 (QI E below args s r.1 r.2) (F0 m 156 ls [.int y0]) := by
  rw [X12_madeFor_156] at h
  refine lv_istore (lv' := [(6, .int y0), (0, .ref (gB E + 399)), (1, .int x1), (2, .int x2), (3, .int x3), (5, .int x5), (7, .int x7)]) C.1 C.2.1 dX12_madeFor_156 hl (by decide) rfl (fun ls hl => ?_)
  refine lv_iinc (v := (x7 + 1)) (lv' := [(7, .int (x7 + 1)), (6, .int y0), (0, .ref (gB E + 399)), (1, .int x1), (2, .int x2), (3, .int x3), (5, .int x5)]) C.1 C.2.1 dX12_madeFor_158 hl (k := 6) rfl rfl (by decide) rfl (fun ls hl => ?_)
  refine lv_goto (tgt := 113) C.1 C.2.1 dX12_madeFor_161 (by decide) ?_
  exact hr113 X (lv_sub hl [2, 3, 4, 5, 6, 1, 0] rfl) h

set_option maxRecDepth 20000 in
theorem w_X12_madeFor_151 {r : (Int32 × Mem)} {σ : Mem} {rc4 : Int32 → Int32 → Int32 → Mem → Option (Int32 × Mem)} {rc52 : Int32 → Int32 → Int32 → Int32 → Int32 → Mem → Option (Int32 × Mem)} {rc113 : Int32 → Int32 → Int32 → Int32 → Int32 → Int32 → Mem → Option (Int32 × Mem)} {x1 : Int32} {x2 : Int32} {x3 : Int32} {x5 : Int32} {x7 : Int32} {ls : Array Slot} {H : Heap} {locs : List Loc} (C : Cx p s m args meth c cX12_madeFor (some .int) 8 RX12) (G : Gf E s) (hr4 : ∀ {x1 : Int32} {x2 : Int32} {x3 : Int32} {σ : Mem} {ls : Array Slot} {H : Heap} {locs : List Loc}, Hx E σ s H locs → lv_has ls 8 [(0, .ref (gB E + 399)), (1, .int x1), (2, .int x2), (3, .int x3)] → rc4 x1 x2 x3 σ = some r → W p l e (RM 207) s m args below meth c H locs 0 0 (QI E below args s r.1 r.2) (F0 m 4 ls [])) (hr52 : ∀ {x1 : Int32} {x2 : Int32} {x3 : Int32} {x4 : Int32} {x5 : Int32} {σ : Mem} {ls : Array Slot} {H : Heap} {locs : List Loc}, Hx E σ s H locs → lv_has ls 8 [(0, .ref (gB E + 399)), (1, .int x1), (2, .int x2), (3, .int x3), (4, .int x4), (5, .int x5)] → rc52 x1 x2 x3 x4 x5 σ = some r → W p l e (RM 207) s m args below meth c H locs 0 0 (QI E below args s r.1 r.2) (F0 m 52 ls [])) (hr113 : ∀ {x1 : Int32} {x2 : Int32} {x3 : Int32} {x5 : Int32} {x6 : Int32} {x7 : Int32} {σ : Mem} {ls : Array Slot} {H : Heap} {locs : List Loc}, Hx E σ s H locs → lv_has ls 8 [(0, .ref (gB E + 399)), (1, .int x1), (2, .int x2), (3, .int x3), (5, .int x5), (6, .int x6), (7, .int x7)] → rc113 x1 x2 x3 x5 x6 x7 σ = some r → W p l e (RM 207) s m args below meth c H locs 0 0 (QI E below args s r.1 r.2) (F0 m 113 ls [])) (X : Hx E σ s H locs) (hl : lv_has ls 8 [(0, .ref (gB E + 399)), (1, .int x1), (2, .int x2), (3, .int x3), (5, .int x5), (7, .int x7)]) (h : X12_madeFor_151 rc4 rc52 rc113 x1 x2 x3 x5 x7 σ = some r) : W p l e (RM 207) s m args below meth c H locs 0 0 (QI E below args s r.1 r.2) (F0 m 151 ls []) := by
  rw [X12_madeFor_151] at h
  refine lv_iconst (v := 1) C.1 C.2.1 dX12_madeFor_151 (by decide) ?_
  refine lv_goto (tgt := 156) C.1 C.2.1 dX12_madeFor_152 (by decide) ?_
  exact w_X12_madeFor_156 C G hr4 hr52 hr113 X (lv_sub hl [0, 1, 2, 3, 4, 5] rfl) h

set_option maxRecDepth 20000 in
theorem w_X12_madeFor_155 {r : (Int32 × Mem)} {σ : Mem} {rc4 : Int32 → Int32 → Int32 → Mem → Option (Int32 × Mem)} {rc52 : Int32 → Int32 → Int32 → Int32 → Int32 → Mem → Option (Int32 × Mem)} {rc113 : Int32 → Int32 → Int32 → Int32 → Int32 → Int32 → Mem → Option (Int32 × Mem)} {x1 : Int32} {x2 : Int32} {x3 : Int32} {x5 : Int32} {x7 : Int32} {ls : Array Slot} {H : Heap} {locs : List Loc} (C : Cx p s m args meth c cX12_madeFor (some .int) 8 RX12) (G : Gf E s) (hr4 : ∀ {x1 : Int32} {x2 : Int32} {x3 : Int32} {σ : Mem} {ls : Array Slot} {H : Heap} {locs : List Loc}, Hx E σ s H locs → lv_has ls 8 [(0, .ref (gB E + 399)), (1, .int x1), (2, .int x2), (3, .int x3)] → rc4 x1 x2 x3 σ = some r → W p l e (RM 207) s m args below meth c H locs 0 0 (QI E below args s r.1 r.2) (F0 m 4 ls [])) (hr52 : ∀ {x1 : Int32} {x2 : Int32} {x3 : Int32} {x4 : Int32} {x5 : Int32} {σ : Mem} {ls : Array Slot} {H : Heap} {locs : List Loc}, Hx E σ s H locs → lv_has ls 8 [(0, .ref (gB E + 399)), (1, .int x1), (2, .int x2), (3, .int x3), (4, .int x4), (5, .int x5)] → rc52 x1 x2 x3 x4 x5 σ = some r → W p l e (RM 207) s m args below meth c H locs 0 0 (QI E below args s r.1 r.2) (F0 m 52 ls [])) (hr113 : ∀ {x1 : Int32} {x2 : Int32} {x3 : Int32} {x5 : Int32} {x6 : Int32} {x7 : Int32} {σ : Mem} {ls : Array Slot} {H : Heap} {locs : List Loc}, Hx E σ s H locs → lv_has ls 8 [(0, .ref (gB E + 399)), (1, .int x1), (2, .int x2), (3, .int x3), (5, .int x5), (6, .int x6), (7, .int x7)] → rc113 x1 x2 x3 x5 x6 x7 σ = some r → W p l e (RM 207) s m args below meth c H locs 0 0 (QI E below args s r.1 r.2) (F0 m 113 ls [])) (X : Hx E σ s H locs) (hl : lv_has ls 8 [(0, .ref (gB E + 399)), (1, .int x1), (2, .int x2), (3, .int x3), (5, .int x5), (7, .int x7)]) (h : X12_madeFor_155 rc4 rc52 rc113 x1 x2 x3 x5 x7 σ = some r) : W p l e (RM 207) s m args below meth c H locs 0 0 (QI E below args s r.1 r.2) (F0 m 155 ls []) := by
  rw [X12_madeFor_155] at h
  refine lv_iconst (v := 0) C.1 C.2.1 dX12_madeFor_155 (by decide) ?_
  exact w_X12_madeFor_156 C G hr4 hr52 hr113 X (lv_sub hl [0, 1, 2, 3, 4, 5] rfl) h

set_option maxRecDepth 20000 in
theorem w_X12_madeFor_113 {r : (Int32 × Mem)} {rc4 : Int32 → Int32 → Int32 → Mem → Option (Int32 × Mem)} {rc52 : Int32 → Int32 → Int32 → Int32 → Int32 → Mem → Option (Int32 × Mem)} (C : Cx p s m args meth c cX12_madeFor (some .int) 8 RX12) (G : Gf E s) (hr4 : ∀ {x1 : Int32} {x2 : Int32} {x3 : Int32} {σ : Mem} {ls : Array Slot} {H : Heap} {locs : List Loc}, Hx E σ s H locs → lv_has ls 8 [(0, .ref (gB E + 399)), (1, .int x1), (2, .int x2), (3, .int x3)] → rc4 x1 x2 x3 σ = some r → W p l e (RM 207) s m args below meth c H locs 0 0 (QI E below args s r.1 r.2) (F0 m 4 ls [])) (hr52 : ∀ {x1 : Int32} {x2 : Int32} {x3 : Int32} {x4 : Int32} {x5 : Int32} {σ : Mem} {ls : Array Slot} {H : Heap} {locs : List Loc}, Hx E σ s H locs → lv_has ls 8 [(0, .ref (gB E + 399)), (1, .int x1), (2, .int x2), (3, .int x3), (4, .int x4), (5, .int x5)] → rc52 x1 x2 x3 x4 x5 σ = some r → W p l e (RM 207) s m args below meth c H locs 0 0 (QI E below args s r.1 r.2) (F0 m 52 ls [])) : ∀ (f : Nat) {x1 : Int32} {x2 : Int32} {x3 : Int32} {x5 : Int32} {x6 : Int32} {x7 : Int32} {σ : Mem} {ls : Array Slot} {H : Heap} {locs : List Loc}, Hx E σ s H locs → lv_has ls 8 [(0, .ref (gB E + 399)), (1, .int x1), (2, .int x2), (3, .int x3), (5, .int x5), (6, .int x6), (7, .int x7)] → X12_madeFor_113 rc4 rc52 f x1 x2 x3 x5 x6 x7 σ = some r → W p l e (RM 207) s m args below meth c H locs 0 0 (QI E below args s r.1 r.2) (F0 m 113 ls []) := by
  intro f
  induction f with
  | zero =>
    intro x1 x2 x3 x5 x6 x7 σ ls H locs X hl h
    rw [X12_madeFor_113] at h
    cases h
  | succ f ih =>
    intro x1 x2 x3 x5 x6 x7 σ ls H locs X hl h
    rw [X12_madeFor_113] at h
    refine lv_iload C.1 C.2.1 dX12_madeFor_113 (lv_at hl 6 rfl) ?_
    refine lv_aload_n C.1 C.2.1 dX12_madeFor_115 rfl (lv_at hl 0 rfl) ?_
    refine gfX12 C G X (k := 399) kd_399 1 (v := .ref (gB E + 400)) rfl rfl (by decide) k_1652 rfl dX12_madeFor_116 ?_
    refine lv_iconst (v := 4) C.1 C.2.1 dX12_madeFor_119 (by decide) ?_
    obtain ⟨r120, e120, h⟩ := bnd h
    refine ald C G X (k := 400) kd_400 (ag_s e120).1 dX12_madeFor_120 ?_
    rw [(ag_s e120).2]
    refine lv_icmp_ge (tgt := 164) C.1 C.2.1 dX12_madeFor_121 (by decide) (fun c121 => ?_) (fun c121 => ?_)
    · replace h := ipos c121 h
      refine lv_iload C.1 C.2.1 dX12_madeFor_164 (lv_at hl 5 rfl) ?_
      refine lv_istore (lv' := [(4, .int x6), (0, .ref (gB E + 399)), (1, .int x1), (2, .int x2), (3, .int x3), (5, .int x5), (6, .int x6), (7, .int x7)]) C.1 C.2.1 dX12_madeFor_166 hl (by decide) rfl (fun ls hl => ?_)
      refine lv_iinc (v := (x5 + 1)) (lv' := [(5, .int (x5 + 1)), (4, .int x6), (0, .ref (gB E + 399)), (1, .int x1), (2, .int x2), (3, .int x3), (6, .int x6), (7, .int x7)]) C.1 C.2.1 dX12_madeFor_168 hl (k := 5) rfl rfl (by decide) rfl (fun ls hl => ?_)
      refine lv_goto (tgt := 52) C.1 C.2.1 dX12_madeFor_171 (by decide) ?_
      exact hr52 X (lv_sub hl [2, 3, 4, 5, 1, 0] rfl) h
    · replace h := ineg c121 h
      refine lv_iload C.1 C.2.1 dX12_madeFor_124 (lv_at hl 5 rfl) ?_
      refine lv_if_ne (tgt := 151) C.1 C.2.1 dX12_madeFor_126 (by decide) (fun c126 => ?_) (fun c126 => ?_)
      · replace h := ineg c126 h
        exact w_X12_madeFor_151 C G hr4 hr52 ih X (lv_sub hl [0, 1, 2, 3, 4, 6] rfl) h
      · replace h := ipos c126 h
        refine lv_iload_n C.1 C.2.1 dX12_madeFor_129 rfl (lv_at hl 3 rfl) ?_
        refine lv_iload C.1 C.2.1 dX12_madeFor_130 (lv_at hl 6 rfl) ?_
        obtain ⟨r132, e132, h⟩ := bnd h
        refine afI X (runS C G X q_X12_isOf k_1943 k_1942 (c_X12_isOf l E e132) rfl hl.1 rfl (Nat.le_of_ble_eq_true rfl) ⟨Nat.le_of_ble_eq_true rfl, Nat.le_of_ble_eq_true rfl⟩ ⟨Nat.le_of_ble_eq_true rfl, Nat.le_of_ble_eq_true rfl⟩ dX12_madeFor_132) (fun H locs X => ?_)
        refine lv_if_eq (tgt := 155) C.1 C.2.1 dX12_madeFor_135 (by decide) (fun c135 => ?_) (fun c135 => ?_)
        · replace h := ipos c135 h
          exact w_X12_madeFor_155 C G hr4 hr52 ih X (lv_sub hl [0, 1, 2, 3, 4, 6] rfl) h
        · replace h := ineg c135 h
          refine lv_aload_n C.1 C.2.1 dX12_madeFor_138 rfl (lv_at hl 0 rfl) ?_
          refine lv_iload C.1 C.2.1 dX12_madeFor_139 (lv_at hl 6 rfl) ?_
          refine lv_iload C.1 C.2.1 dX12_madeFor_141 (lv_at hl 4 rfl) ?_
          refine lv_bipush (v := 9) C.1 C.2.1 dX12_madeFor_143 (by decide) ?_
          obtain ⟨r145, σ145, e145, h⟩ := bnd2 h
          refine afI (r0 := r145) (σ' := σ145) X (runV C G X q_X12_wouldLight k_1911 kp_59 k_1909 (rcX12 G X kd_399) (c_X12_wouldLight l E e145) rfl hl.1 rfl (Nat.le_of_ble_eq_true rfl) ⟨Nat.le_of_ble_eq_true rfl, Nat.le_of_ble_eq_true rfl⟩ ⟨Nat.le_of_ble_eq_true rfl, Nat.le_of_ble_eq_true rfl⟩ dX12_madeFor_145) (fun H locs X => ?_)
          refine lv_if_eq (tgt := 155) C.1 C.2.1 dX12_madeFor_148 (by decide) (fun c148 => ?_) (fun c148 => ?_)
          · replace h := ipos c148 h
            exact w_X12_madeFor_155 C G hr4 hr52 ih X (lv_sub hl [0, 1, 2, 3, 4, 6] rfl) h
          · replace h := ineg c148 h
            exact w_X12_madeFor_151 C G hr4 hr52 ih X (lv_sub hl [0, 1, 2, 3, 4, 6] rfl) h

set_option maxRecDepth 20000 in
theorem w_X12_madeFor_108 {r : (Int32 × Mem)} {σ : Mem} {rc4 : Int32 → Int32 → Int32 → Mem → Option (Int32 × Mem)} {rc52 : Int32 → Int32 → Int32 → Int32 → Int32 → Mem → Option (Int32 × Mem)} {x1 : Int32} {x2 : Int32} {x3 : Int32} {x5 : Int32} {y0 : Int32} {ls : Array Slot} {H : Heap} {locs : List Loc} (C : Cx p s m args meth c cX12_madeFor (some .int) 8 RX12) (G : Gf E s) (hr4 : ∀ {x1 : Int32} {x2 : Int32} {x3 : Int32} {σ : Mem} {ls : Array Slot} {H : Heap} {locs : List Loc}, Hx E σ s H locs → lv_has ls 8 [(0, .ref (gB E + 399)), (1, .int x1), (2, .int x2), (3, .int x3)] → rc4 x1 x2 x3 σ = some r → W p l e (RM 207) s m args below meth c H locs 0 0 (QI E below args s r.1 r.2) (F0 m 4 ls [])) (hr52 : ∀ {x1 : Int32} {x2 : Int32} {x3 : Int32} {x4 : Int32} {x5 : Int32} {σ : Mem} {ls : Array Slot} {H : Heap} {locs : List Loc}, Hx E σ s H locs → lv_has ls 8 [(0, .ref (gB E + 399)), (1, .int x1), (2, .int x2), (3, .int x3), (4, .int x4), (5, .int x5)] → rc52 x1 x2 x3 x4 x5 σ = some r → W p l e (RM 207) s m args below meth c H locs 0 0 (QI E below args s r.1 r.2) (F0 m 52 ls [])) (X : Hx E σ s H locs) (hl : lv_has ls 8 [(0, .ref (gB E + 399)), (1, .int x1), (2, .int x2), (3, .int x3), (5, .int x5)]) (h : X12_madeFor_108 rc4 rc52 x1 x2 x3 x5 y0 σ = some r) : W p l e (RM 207) s m args below meth c H locs 0 0 (QI E below args s r.1 r.2) (F0 m 108 ls [.int y0]) := by
  rw [X12_madeFor_108] at h
  refine lv_istore (lv' := [(6, .int y0), (0, .ref (gB E + 399)), (1, .int x1), (2, .int x2), (3, .int x3), (5, .int x5)]) C.1 C.2.1 dX12_madeFor_108 hl (by decide) rfl (fun ls hl => ?_)
  refine lv_iconst (v := 0) C.1 C.2.1 dX12_madeFor_110 (by decide) ?_
  refine lv_istore (lv' := [(7, .int (0 : Int32)), (6, .int y0), (0, .ref (gB E + 399)), (1, .int x1), (2, .int x2), (3, .int x3), (5, .int x5)]) C.1 C.2.1 dX12_madeFor_111 hl (by decide) rfl (fun ls hl => ?_)
  exact w_X12_madeFor_113 C G hr4 hr52 FU X (lv_sub hl [2, 3, 4, 5, 6, 1, 0] rfl) h

set_option maxRecDepth 20000 in
theorem w_X12_madeFor_174 {r : (Int32 × Mem)} {σ : Mem} {rc4 : Int32 → Int32 → Int32 → Mem → Option (Int32 × Mem)} {x1 : Int32} {x2 : Int32} {x3 : Int32} {x4 : Int32} {ls : Array Slot} {H : Heap} {locs : List Loc} (C : Cx p s m args meth c cX12_madeFor (some .int) 8 RX12) (G : Gf E s) (hr4 : ∀ {x1 : Int32} {x2 : Int32} {x3 : Int32} {σ : Mem} {ls : Array Slot} {H : Heap} {locs : List Loc}, Hx E σ s H locs → lv_has ls 8 [(0, .ref (gB E + 399)), (1, .int x1), (2, .int x2), (3, .int x3)] → rc4 x1 x2 x3 σ = some r → W p l e (RM 207) s m args below meth c H locs 0 0 (QI E below args s r.1 r.2) (F0 m 4 ls [])) (X : Hx E σ s H locs) (hl : lv_has ls 8 [(0, .ref (gB E + 399)), (1, .int x1), (2, .int x2), (3, .int x3), (4, .int x4)]) (h : X12_madeFor_174 rc4 x1 x2 x3 x4 σ = some r) : W p l e (RM 207) s m args below meth c H locs 0 0 (QI E below args s r.1 r.2) (F0 m 174 ls []) := by
  rw [X12_madeFor_174] at h
  refine lv_iload C.1 C.2.1 dX12_madeFor_174 (lv_at hl 4 rfl) ?_
  refine lv_if_eq (tgt := 184) C.1 C.2.1 dX12_madeFor_176 (by decide) (fun c176 => ?_) (fun c176 => ?_)
  · replace h := ipos c176 h
    refine lv_iinc (v := (x3 + 1)) (lv' := [(3, .int (x3 + 1)), (0, .ref (gB E + 399)), (1, .int x1), (2, .int x2), (4, .int x4)]) C.1 C.2.1 dX12_madeFor_184 hl (k := 3) rfl rfl (by decide) rfl (fun ls hl => ?_)
    refine lv_goto (tgt := 4) C.1 C.2.1 dX12_madeFor_187 (by decide) ?_
    exact hr4 X (lv_sub hl [1, 2, 3, 0] rfl) h
  · replace h := ineg c176 h
    refine lv_iload_n C.1 C.2.1 dX12_madeFor_179 rfl (lv_at hl 3 rfl) ?_
    obtain ⟨r180, e180, h⟩ := bnd h
    refine afI X (runS C G X q_X12_bits k_2109 k_2108 (c_X12_bits l E e180) rfl hl.1 rfl (Nat.le_of_ble_eq_true rfl) ⟨Nat.le_of_ble_eq_true rfl, Nat.le_of_ble_eq_true rfl⟩ ⟨Nat.le_of_ble_eq_true rfl, Nat.le_of_ble_eq_true rfl⟩ dX12_madeFor_180) (fun H locs X => ?_)
    refine lv_istore_n (lv' := [(2, .int r180), (0, .ref (gB E + 399)), (1, .int x1), (3, .int x3), (4, .int x4)]) C.1 C.2.1 dX12_madeFor_183 rfl hl (by decide) rfl (fun ls hl => ?_)
    refine lv_iinc (v := (x3 + 1)) (lv' := [(3, .int (x3 + 1)), (2, .int r180), (0, .ref (gB E + 399)), (1, .int x1), (4, .int x4)]) C.1 C.2.1 dX12_madeFor_184 hl (k := 3) rfl rfl (by decide) rfl (fun ls hl => ?_)
    refine lv_goto (tgt := 4) C.1 C.2.1 dX12_madeFor_187 (by decide) ?_
    exact hr4 X (lv_sub hl [2, 3, 1, 0] rfl) h

set_option maxRecDepth 20000 in
theorem w_X12_madeFor_52 {r : (Int32 × Mem)} {rc4 : Int32 → Int32 → Int32 → Mem → Option (Int32 × Mem)} (C : Cx p s m args meth c cX12_madeFor (some .int) 8 RX12) (G : Gf E s) (hr4 : ∀ {x1 : Int32} {x2 : Int32} {x3 : Int32} {σ : Mem} {ls : Array Slot} {H : Heap} {locs : List Loc}, Hx E σ s H locs → lv_has ls 8 [(0, .ref (gB E + 399)), (1, .int x1), (2, .int x2), (3, .int x3)] → rc4 x1 x2 x3 σ = some r → W p l e (RM 207) s m args below meth c H locs 0 0 (QI E below args s r.1 r.2) (F0 m 4 ls [])) : ∀ (f : Nat) {x1 : Int32} {x2 : Int32} {x3 : Int32} {x4 : Int32} {x5 : Int32} {σ : Mem} {ls : Array Slot} {H : Heap} {locs : List Loc}, Hx E σ s H locs → lv_has ls 8 [(0, .ref (gB E + 399)), (1, .int x1), (2, .int x2), (3, .int x3), (4, .int x4), (5, .int x5)] → X12_madeFor_52 rc4 f x1 x2 x3 x4 x5 σ = some r → W p l e (RM 207) s m args below meth c H locs 0 0 (QI E below args s r.1 r.2) (F0 m 52 ls []) := by
  intro f
  induction f with
  | zero =>
    intro x1 x2 x3 x4 x5 σ ls H locs X hl h
    rw [X12_madeFor_52] at h
    cases h
  | succ f ih =>
    intro x1 x2 x3 x4 x5 σ ls H locs X hl h
    rw [X12_madeFor_52] at h
    refine lv_iload C.1 C.2.1 dX12_madeFor_52 (lv_at hl 5 rfl) ?_
    refine lv_aload_n C.1 C.2.1 dX12_madeFor_54 rfl (lv_at hl 0 rfl) ?_
    refine gfX12 C G X (k := 399) kd_399 1 (v := .ref (gB E + 400)) rfl rfl (by decide) k_1652 rfl dX12_madeFor_55 ?_
    refine lv_iconst (v := 3) C.1 C.2.1 dX12_madeFor_58 (by decide) ?_
    obtain ⟨r59, e59, h⟩ := bnd h
    refine ald C G X (k := 400) kd_400 (ag_s e59).1 dX12_madeFor_59 ?_
    rw [(ag_s e59).2]
    refine lv_icmp_ge (tgt := 174) C.1 C.2.1 dX12_madeFor_60 (by decide) (fun c60 => ?_) (fun c60 => ?_)
    · replace h := ipos c60 h
      exact w_X12_madeFor_174 C G hr4 X (lv_sub hl [0, 1, 2, 3, 4] rfl) h
    · replace h := ineg c60 h
      refine lv_iload C.1 C.2.1 dX12_madeFor_63 (lv_at hl 4 rfl) ?_
      refine lv_if_eq (tgt := 174) C.1 C.2.1 dX12_madeFor_65 (by decide) (fun c65 => ?_) (fun c65 => ?_)
      · replace h := ipos c65 h
        exact w_X12_madeFor_174 C G hr4 X (lv_sub hl [0, 1, 2, 3, 4] rfl) h
      · replace h := ineg c65 h
        refine lv_aload_n C.1 C.2.1 dX12_madeFor_68 rfl (lv_at hl 0 rfl) ?_
        refine lv_iload C.1 C.2.1 dX12_madeFor_69 (lv_at hl 5 rfl) ?_
        refine lv_iconst (v := 2) C.1 C.2.1 dX12_madeFor_71 (by decide) ?_
        obtain ⟨r72, e72, h⟩ := bnd h
        refine afI X (runV C G X q_X12_of k_1855 kp_49 k_1853 (rcX12 G X kd_399) (c_X12_of l E e72) rfl hl.1 rfl (Nat.le_of_ble_eq_true rfl) ⟨Nat.le_of_ble_eq_true rfl, Nat.le_of_ble_eq_true rfl⟩ ⟨Nat.le_of_ble_eq_true rfl, Nat.le_of_ble_eq_true rfl⟩ dX12_madeFor_72) (fun H locs X => ?_)
        refine lv_iload_n C.1 C.2.1 dX12_madeFor_75 rfl (lv_at hl 1 rfl) ?_
        refine lv_icmp_ne (tgt := 168) C.1 C.2.1 dX12_madeFor_76 (by decide) (fun c76 => ?_) (fun c76 => ?_)
        · replace h := ineg c76 h
          refine lv_iinc (v := (x5 + 1)) (lv' := [(5, .int (x5 + 1)), (0, .ref (gB E + 399)), (1, .int x1), (2, .int x2), (3, .int x3), (4, .int x4)]) C.1 C.2.1 dX12_madeFor_168 hl (k := 5) rfl rfl (by decide) rfl (fun ls hl => ?_)
          refine lv_goto (tgt := 52) C.1 C.2.1 dX12_madeFor_171 (by decide) ?_
          exact ih X (lv_sub hl [1, 2, 3, 4, 5, 0] rfl) h
        · replace h := ipos c76 h
          refine lv_aload_n C.1 C.2.1 dX12_madeFor_79 rfl (lv_at hl 0 rfl) ?_
          refine lv_iload C.1 C.2.1 dX12_madeFor_80 (lv_at hl 5 rfl) ?_
          refine lv_iconst (v := 1) C.1 C.2.1 dX12_madeFor_82 (by decide) ?_
          obtain ⟨r83, e83, h⟩ := bnd h
          refine afI X (runV C G X q_X12_of k_1855 kp_49 k_1853 (rcX12 G X kd_399) (c_X12_of l E e83) rfl hl.1 rfl (Nat.le_of_ble_eq_true rfl) ⟨Nat.le_of_ble_eq_true rfl, Nat.le_of_ble_eq_true rfl⟩ ⟨Nat.le_of_ble_eq_true rfl, Nat.le_of_ble_eq_true rfl⟩ dX12_madeFor_83) (fun H locs X => ?_)
          refine lv_iconst (v := 1) C.1 C.2.1 dX12_madeFor_86 (by decide) ?_
          refine lv_icmp_ne (tgt := 93) C.1 C.2.1 dX12_madeFor_87 (by decide) (fun c87 => ?_) (fun c87 => ?_)
          · replace h := ineg c87 h
            refine lv_aload_n C.1 C.2.1 dX12_madeFor_93 rfl (lv_at hl 0 rfl) ?_
            refine lv_iload C.1 C.2.1 dX12_madeFor_94 (lv_at hl 5 rfl) ?_
            refine lv_iconst (v := 0) C.1 C.2.1 dX12_madeFor_96 (by decide) ?_
            obtain ⟨r97, σ97, e97, h⟩ := bnd2 h
            refine afI (r0 := r97) (σ' := σ97) X (runV C G X q_X12_lighters k_1895 kp_55 k_1893 (rcX12 G X kd_399) (c_X12_lighters l E e97) rfl hl.1 rfl (Nat.le_of_ble_eq_true rfl) ⟨Nat.le_of_ble_eq_true rfl, Nat.le_of_ble_eq_true rfl⟩ ⟨Nat.le_of_ble_eq_true rfl, Nat.le_of_ble_eq_true rfl⟩ dX12_madeFor_97) (fun H locs X => ?_)
            refine lv_if_eq (tgt := 107) C.1 C.2.1 dX12_madeFor_100 (by decide) (fun c100 => ?_) (fun c100 => ?_)
            · replace h := ipos c100 h
              refine lv_iconst (v := 0) C.1 C.2.1 dX12_madeFor_107 (by decide) ?_
              exact w_X12_madeFor_108 C G hr4 ih X (lv_sub hl [0, 1, 2, 3, 5] rfl) h
            · replace h := ineg c100 h
              refine lv_iconst (v := 1) C.1 C.2.1 dX12_madeFor_103 (by decide) ?_
              refine lv_goto (tgt := 108) C.1 C.2.1 dX12_madeFor_104 (by decide) ?_
              exact w_X12_madeFor_108 C G hr4 ih X (lv_sub hl [0, 1, 2, 3, 5] rfl) h
          · replace h := ipos c87 h
            refine lv_goto (tgt := 168) C.1 C.2.1 dX12_madeFor_90 (by decide) ?_
            refine lv_iinc (v := (x5 + 1)) (lv' := [(5, .int (x5 + 1)), (0, .ref (gB E + 399)), (1, .int x1), (2, .int x2), (3, .int x3), (4, .int x4)]) C.1 C.2.1 dX12_madeFor_168 hl (k := 5) rfl rfl (by decide) rfl (fun ls hl => ?_)
            refine lv_goto (tgt := 52) C.1 C.2.1 dX12_madeFor_171 (by decide) ?_
            exact ih X (lv_sub hl [1, 2, 3, 4, 5, 0] rfl) h

set_option maxRecDepth 20000 in
theorem w_X12_madeFor_46 {r : (Int32 × Mem)} {σ : Mem} {rc4 : Int32 → Int32 → Int32 → Mem → Option (Int32 × Mem)} {x1 : Int32} {x2 : Int32} {x3 : Int32} {ls : Array Slot} {H : Heap} {locs : List Loc} (C : Cx p s m args meth c cX12_madeFor (some .int) 8 RX12) (G : Gf E s) (hr4 : ∀ {x1 : Int32} {x2 : Int32} {x3 : Int32} {σ : Mem} {ls : Array Slot} {H : Heap} {locs : List Loc}, Hx E σ s H locs → lv_has ls 8 [(0, .ref (gB E + 399)), (1, .int x1), (2, .int x2), (3, .int x3)] → rc4 x1 x2 x3 σ = some r → W p l e (RM 207) s m args below meth c H locs 0 0 (QI E below args s r.1 r.2) (F0 m 4 ls [])) (X : Hx E σ s H locs) (hl : lv_has ls 8 [(0, .ref (gB E + 399)), (1, .int x1), (2, .int x2), (3, .int x3)]) (h : X12_madeFor_46 rc4 x1 x2 x3 σ = some r) : W p l e (RM 207) s m args below meth c H locs 0 0 (QI E below args s r.1 r.2) (F0 m 46 ls []) := by
  rw [X12_madeFor_46] at h
  refine lv_iconst (v := 1) C.1 C.2.1 dX12_madeFor_46 (by decide) ?_
  refine lv_istore (lv' := [(4, .int (1 : Int32)), (0, .ref (gB E + 399)), (1, .int x1), (2, .int x2), (3, .int x3)]) C.1 C.2.1 dX12_madeFor_47 hl (by decide) rfl (fun ls hl => ?_)
  refine lv_iconst (v := 0) C.1 C.2.1 dX12_madeFor_49 (by decide) ?_
  refine lv_istore (lv' := [(5, .int (0 : Int32)), (4, .int (1 : Int32)), (0, .ref (gB E + 399)), (1, .int x1), (2, .int x2), (3, .int x3)]) C.1 C.2.1 dX12_madeFor_50 hl (by decide) rfl (fun ls hl => ?_)
  exact w_X12_madeFor_52 C G hr4 FU X (lv_sub hl [2, 3, 4, 5, 1, 0] rfl) h

set_option maxRecDepth 20000 in
theorem w_X12_madeFor_4 {r : (Int32 × Mem)} (C : Cx p s m args meth c cX12_madeFor (some .int) 8 RX12) (G : Gf E s) : ∀ (f : Nat) {x1 : Int32} {x2 : Int32} {x3 : Int32} {σ : Mem} {ls : Array Slot} {H : Heap} {locs : List Loc}, Hx E σ s H locs → lv_has ls 8 [(0, .ref (gB E + 399)), (1, .int x1), (2, .int x2), (3, .int x3)] → X12_madeFor_4 f x1 x2 x3 σ = some r → W p l e (RM 207) s m args below meth c H locs 0 0 (QI E below args s r.1 r.2) (F0 m 4 ls []) := by
  intro f
  induction f with
  | zero =>
    intro x1 x2 x3 σ ls H locs X hl h
    rw [X12_madeFor_4] at h
    cases h
  | succ f ih =>
    intro x1 x2 x3 σ ls H locs X hl h
    rw [X12_madeFor_4] at h
    refine lv_iload_n C.1 C.2.1 dX12_madeFor_4 rfl (lv_at hl 3 rfl) ?_
    refine lv_bipush (v := 64) C.1 C.2.1 dX12_madeFor_5 (by decide) ?_
    refine lv_icmp_ge (tgt := 190) C.1 C.2.1 dX12_madeFor_7 (by decide) (fun c7 => ?_) (fun c7 => ?_)
    · replace h := ipos c7 h
      refine lv_iload_n C.1 C.2.1 dX12_madeFor_190 rfl (lv_at hl 2 rfl) ?_
      rw [← Option.some.inj h]
      exact rtI C X dX12_madeFor_191
    · replace h := ineg c7 h
      refine lv_iload_n C.1 C.2.1 dX12_madeFor_10 rfl (lv_at hl 3 rfl) ?_
      refine lv_iconst (v := 1) C.1 C.2.1 dX12_madeFor_11 (by decide) ?_
      refine lv_aload_n C.1 C.2.1 dX12_madeFor_12 rfl (lv_at hl 0 rfl) ?_
      refine gfX12 C G X (k := 399) kd_399 1 (v := .ref (gB E + 400)) rfl rfl (by decide) k_1652 rfl dX12_madeFor_13 ?_
      refine lv_iconst (v := 4) C.1 C.2.1 dX12_madeFor_16 (by decide) ?_
      obtain ⟨r17, e17, h⟩ := bnd h
      refine ald C G X (k := 400) kd_400 (ag_s e17).1 dX12_madeFor_17 ?_
      rw [(ag_s e17).2]
      refine lv_ishl C.1 C.2.1 dX12_madeFor_18 ?_
      refine lv_icmp_ge (tgt := 184) C.1 C.2.1 dX12_madeFor_19 (by decide) (fun c19 => ?_) (fun c19 => ?_)
      · replace h := ipos c19 h
        refine lv_iinc (v := (x3 + 1)) (lv' := [(3, .int (x3 + 1)), (0, .ref (gB E + 399)), (1, .int x1), (2, .int x2)]) C.1 C.2.1 dX12_madeFor_184 hl (k := 3) rfl rfl (by decide) rfl (fun ls hl => ?_)
        refine lv_goto (tgt := 4) C.1 C.2.1 dX12_madeFor_187 (by decide) ?_
        exact ih X (lv_sub hl [1, 2, 3, 0] rfl) h
      · replace h := ineg c19 h
        refine lv_iload_n C.1 C.2.1 dX12_madeFor_22 rfl (lv_at hl 3 rfl) ?_
        refine lv_iload_n C.1 C.2.1 dX12_madeFor_23 rfl (lv_at hl 1 rfl) ?_
        obtain ⟨r24, e24, h⟩ := bnd h
        refine afI X (runS C G X q_X12_isOf k_1943 k_1942 (c_X12_isOf l E e24) rfl hl.1 rfl (Nat.le_of_ble_eq_true rfl) ⟨Nat.le_of_ble_eq_true rfl, Nat.le_of_ble_eq_true rfl⟩ ⟨Nat.le_of_ble_eq_true rfl, Nat.le_of_ble_eq_true rfl⟩ dX12_madeFor_24) (fun H locs X => ?_)
        refine lv_if_ne (tgt := 184) C.1 C.2.1 dX12_madeFor_27 (by decide) (fun c27 => ?_) (fun c27 => ?_)
        · replace h := ineg c27 h
          refine lv_iinc (v := (x3 + 1)) (lv' := [(3, .int (x3 + 1)), (0, .ref (gB E + 399)), (1, .int x1), (2, .int x2)]) C.1 C.2.1 dX12_madeFor_184 hl (k := 3) rfl rfl (by decide) rfl (fun ls hl => ?_)
          refine lv_goto (tgt := 4) C.1 C.2.1 dX12_madeFor_187 (by decide) ?_
          exact ih X (lv_sub hl [1, 2, 3, 0] rfl) h
        · replace h := ipos c27 h
          refine lv_iload_n C.1 C.2.1 dX12_madeFor_30 rfl (lv_at hl 2 rfl) ?_
          refine lv_iconst (v := -1) C.1 C.2.1 dX12_madeFor_31 (by decide) ?_
          refine lv_icmp_eq (tgt := 46) C.1 C.2.1 dX12_madeFor_32 (by decide) (fun c32 => ?_) (fun c32 => ?_)
          · replace h := ipos c32 h
            exact w_X12_madeFor_46 C G ih X (lv_sub hl [0, 1, 2, 3] rfl) h
          · replace h := ineg c32 h
            refine lv_iload_n C.1 C.2.1 dX12_madeFor_35 rfl (lv_at hl 3 rfl) ?_
            obtain ⟨r36, e36, h⟩ := bnd h
            refine afI X (runS C G X q_X12_bits k_2109 k_2108 (c_X12_bits l E e36) rfl hl.1 rfl (Nat.le_of_ble_eq_true rfl) ⟨Nat.le_of_ble_eq_true rfl, Nat.le_of_ble_eq_true rfl⟩ ⟨Nat.le_of_ble_eq_true rfl, Nat.le_of_ble_eq_true rfl⟩ dX12_madeFor_36) (fun H locs X => ?_)
            refine lv_iload_n C.1 C.2.1 dX12_madeFor_39 rfl (lv_at hl 2 rfl) ?_
            refine lv_icmp_lt (tgt := 46) C.1 C.2.1 dX12_madeFor_40 (by decide) (fun c40 => ?_) (fun c40 => ?_)
            · replace h := ipos c40 h
              exact w_X12_madeFor_46 C G ih X (lv_sub hl [0, 1, 2, 3] rfl) h
            · replace h := ineg c40 h
              refine lv_goto (tgt := 184) C.1 C.2.1 dX12_madeFor_43 (by decide) ?_
              refine lv_iinc (v := (x3 + 1)) (lv' := [(3, .int (x3 + 1)), (0, .ref (gB E + 399)), (1, .int x1), (2, .int x2)]) C.1 C.2.1 dX12_madeFor_184 hl (k := 3) rfl rfl (by decide) rfl (fun ls hl => ?_)
              refine lv_goto (tgt := 4) C.1 C.2.1 dX12_madeFor_187 (by decide) ?_
              exact ih X (lv_sub hl [1, 2, 3, 0] rfl) h

set_option maxRecDepth 20000 in
theorem w_X12_madeFor {r : (Int32 × Mem)} {σ : Mem} {x1 : Int32} {ls : Array Slot} {H : Heap} {locs : List Loc} (C : Cx p s m args meth c cX12_madeFor (some .int) 8 RX12) (G : Gf E s) (X : Hx E σ s H locs) (hl : lv_has ls 8 [(0, .ref (gB E + 399)), (1, .int x1)]) (h : X12_madeFor x1 σ = some r) : W p l e (RM 207) s m args below meth c H locs 0 0 (QI E below args s r.1 r.2) (F0 m 0 ls []) := by
  rw [X12_madeFor] at h
  refine lv_iconst (v := -1) C.1 C.2.1 dX12_madeFor_0 (by decide) ?_
  refine lv_istore_n (lv' := [(2, .int (-1 : Int32)), (0, .ref (gB E + 399)), (1, .int x1)]) C.1 C.2.1 dX12_madeFor_1 rfl hl (by decide) rfl (fun ls hl => ?_)
  refine lv_iconst (v := 0) C.1 C.2.1 dX12_madeFor_2 (by decide) ?_
  refine lv_istore_n (lv' := [(3, .int (0 : Int32)), (2, .int (-1 : Int32)), (0, .ref (gB E + 399)), (1, .int x1)]) C.1 C.2.1 dX12_madeFor_3 rfl hl (by decide) rfl (fun ls hl => ?_)
  exact w_X12_madeFor_4 C G FU X (lv_sub hl [2, 3, 1, 0] rfl) h

theorem c_X12_madeFor (l : Launch) (E : GE) {σ : Mem} {x1 : Int32} {r : (Int32 × Mem)} (h : X12_madeFor x1 σ = some r) : CtI l E yX12_madeFor cX12_madeFor 8 .int 207 [.ref (gB E + 399), .int x1] σ r.1 r.2 := by
  refine Met.ofW (cc := cX12_madeFor) (maxL := 8) (ret := (some .int)) (by decide) rfl ?_
  intro p e s m args below meth c s₁ B hml hv
  obtain ⟨rfl, G, X⟩ := start hv
  have C := cxof B hml
  have hl := lv_entry [.ref (gB E + 399), .int x1] (n := 8) (Nat.le_of_ble_eq_true rfl)
  rw [lg_entry_eq]
  generalize (lg_sl [.ref (gB E + 399), .int x1] ++ List.replicate (8 - (lg_sl [.ref (gB E + 399), .int x1]).length) Slot.unset).toArray = ls at hl ⊢
  exact w_X12_madeFor C G X hl h

set_option maxRecDepth 20000 in
theorem w_X12_madeUp_9 {r : (Int32 × Mem)} (C : Cx p s m args meth c cX12_madeUp (some .int) 4 RX12) (G : Gf E s) : ∀ (f : Nat) {x1 : Int32} {x2 : Int32} {σ : Mem} {ls : Array Slot} {H : Heap} {locs : List Loc}, Hx E σ s H locs → lv_has ls 4 [(0, .ref (gB E + 399)), (1, .int x1), (2, .int x2)] → X12_madeUp_9 f x1 x2 σ = some r → W p l e (RM 208) s m args below meth c H locs 0 0 (QI E below args s r.1 r.2) (F0 m 9 ls []) := by
  intro f
  induction f with
  | zero =>
    intro x1 x2 σ ls H locs X hl h
    rw [X12_madeUp_9] at h
    cases h
  | succ f ih =>
    intro x1 x2 σ ls H locs X hl h
    rw [X12_madeUp_9] at h
    refine lv_iload_n C.1 C.2.1 dX12_madeUp_9 rfl (lv_at hl 2 rfl) ?_
    refine lv_aload_n C.1 C.2.1 dX12_madeUp_10 rfl (lv_at hl 0 rfl) ?_
    refine gfX12 C G X (k := 399) kd_399 1 (v := .ref (gB E + 400)) rfl rfl (by decide) k_1652 rfl dX12_madeUp_11 ?_
    refine lv_iconst (v := 4) C.1 C.2.1 dX12_madeUp_14 (by decide) ?_
    obtain ⟨r15, e15, h⟩ := bnd h
    refine ald C G X (k := 400) kd_400 (ag_s e15).1 dX12_madeUp_15 ?_
    rw [(ag_s e15).2]
    refine lv_icmp_ge (tgt := 42) C.1 C.2.1 dX12_madeUp_16 (by decide) (fun c16 => ?_) (fun c16 => ?_)
    · replace h := ipos c16 h
      refine lv_iload_n C.1 C.2.1 dX12_madeUp_42 rfl (lv_at hl 1 rfl) ?_
      rw [← Option.some.inj h]
      exact rtI C X dX12_madeUp_43
    · replace h := ineg c16 h
      refine lv_aload_n C.1 C.2.1 dX12_madeUp_19 rfl (lv_at hl 0 rfl) ?_
      refine lv_iload_n C.1 C.2.1 dX12_madeUp_20 rfl (lv_at hl 2 rfl) ?_
      obtain ⟨r21, σ21, e21, h⟩ := bnd2 h
      refine afI (r0 := r21) (σ' := σ21) X (runV C G X q_X12_madeFor k_2137 kp_89 k_2135 (rcX12 G X kd_399) (c_X12_madeFor l E e21) rfl hl.1 rfl (Nat.le_of_ble_eq_true rfl) ⟨Nat.le_of_ble_eq_true rfl, Nat.le_of_ble_eq_true rfl⟩ ⟨Nat.le_of_ble_eq_true rfl, Nat.le_of_ble_eq_true rfl⟩ dX12_madeUp_21) (fun H locs X => ?_)
      refine lv_istore_n (lv' := [(3, .int r21), (0, .ref (gB E + 399)), (1, .int x1), (2, .int x2)]) C.1 C.2.1 dX12_madeUp_24 rfl hl (by decide) rfl (fun ls hl => ?_)
      refine lv_iload_n C.1 C.2.1 dX12_madeUp_25 rfl (lv_at hl 0 rfl) ?_
      refine lv_iconst (v := -1) C.1 C.2.1 dX12_madeUp_26 (by decide) ?_
      refine lv_icmp_ne (tgt := 32) C.1 C.2.1 dX12_madeUp_27 (by decide) (fun c27 => ?_) (fun c27 => ?_)
      · replace h := ineg c27 h
        refine lv_iload_n C.1 C.2.1 dX12_madeUp_32 rfl (lv_at hl 2 rfl) ?_
        refine lv_iload_n C.1 C.2.1 dX12_madeUp_33 rfl (lv_at hl 0 rfl) ?_
        refine lv_iadd C.1 C.2.1 dX12_madeUp_34 ?_
        refine lv_istore_n (lv' := [(1, .int (x1 + r21)), (3, .int r21), (0, .ref (gB E + 399)), (2, .int x2)]) C.1 C.2.1 dX12_madeUp_35 rfl hl (by decide) rfl (fun ls hl => ?_)
        refine lv_iinc (v := (x2 + 1)) (lv' := [(2, .int (x2 + 1)), (1, .int (x1 + r21)), (3, .int r21), (0, .ref (gB E + 399))]) C.1 C.2.1 dX12_madeUp_36 hl (k := 3) rfl rfl (by decide) rfl (fun ls hl => ?_)
        refine lv_goto (tgt := 9) C.1 C.2.1 dX12_madeUp_39 (by decide) ?_
        exact ih X (lv_sub hl [3, 1, 0] rfl) h
      · replace h := ipos c27 h
        refine lv_iconst (v := -1) C.1 C.2.1 dX12_madeUp_30 (by decide) ?_
        rw [← Option.some.inj h]
        exact rtI C X dX12_madeUp_31

set_option maxRecDepth 20000 in
theorem w_X12_madeUp {r : (Int32 × Mem)} {σ : Mem} {ls : Array Slot} {H : Heap} {locs : List Loc} (C : Cx p s m args meth c cX12_madeUp (some .int) 4 RX12) (G : Gf E s) (X : Hx E σ s H locs) (hl : lv_has ls 4 [(0, .ref (gB E + 399))]) (h : X12_madeUp σ = some r) : W p l e (RM 208) s m args below meth c H locs 0 0 (QI E below args s r.1 r.2) (F0 m 0 ls []) := by
  rw [X12_madeUp] at h
  refine lv_aload_n C.1 C.2.1 dX12_madeUp_0 rfl (lv_at hl 0 rfl) ?_
  refine lv_iconst (v := 0) C.1 C.2.1 dX12_madeUp_1 (by decide) ?_
  obtain ⟨σ2, e2, h⟩ := bnd h
  refine pfX12 C G X (k := 399) kd_399 0 (x := (0 : Int32)) (ty := .int) rfl rfl (Nat.le_of_ble_eq_true rfl) (by decide) k_1651 rfl rfl (by decide +kernel) rfl rfl dX12_madeUp_2 (fun H locs X => ?_)
  replace X := pu_x e2 X
  refine lv_iconst (v := 0) C.1 C.2.1 dX12_madeUp_5 (by decide) ?_
  refine lv_istore_n (lv' := [(1, .int (0 : Int32)), (0, .ref (gB E + 399))]) C.1 C.2.1 dX12_madeUp_6 rfl hl (by decide) rfl (fun ls hl => ?_)
  refine lv_iconst (v := 0) C.1 C.2.1 dX12_madeUp_7 (by decide) ?_
  refine lv_istore_n (lv' := [(2, .int (0 : Int32)), (1, .int (0 : Int32)), (0, .ref (gB E + 399))]) C.1 C.2.1 dX12_madeUp_8 rfl hl (by decide) rfl (fun ls hl => ?_)
  exact w_X12_madeUp_9 C G FU X (lv_sub hl [2, 1, 0] rfl) h

theorem c_X12_madeUp (l : Launch) (E : GE) {σ : Mem} {r : (Int32 × Mem)} (h : X12_madeUp σ = some r) : CtI l E yX12_madeUp cX12_madeUp 4 .int 208 [.ref (gB E + 399)] σ r.1 r.2 := by
  refine Met.ofW (cc := cX12_madeUp) (maxL := 4) (ret := (some .int)) (by decide) rfl ?_
  intro p e s m args below meth c s₁ B hml hv
  obtain ⟨rfl, G, X⟩ := start hv
  have C := cxof B hml
  have hl := lv_entry [.ref (gB E + 399)] (n := 4) (Nat.le_of_ble_eq_true rfl)
  rw [lg_entry_eq]
  generalize (lg_sl [.ref (gB E + 399)] ++ List.replicate (4 - (lg_sl [.ref (gB E + 399)]).length) Slot.unset).toArray = ls at hl ⊢
  exact w_X12_madeUp C G X hl h

set_option maxRecDepth 20000 in
theorem w_X12_areRows_62 {r : Int32} {σ : Mem} {rc20 : Int32 → Int32 → Int32 → Option Int32} {x1 : Int32} {x3 : Int32} {y0 : Int32} {ls : Array Slot} {H : Heap} {locs : List Loc} (C : Cx p s m args meth c cX12_areRows (some .boolean) 4 RX12) (G : Gf E s) (hr20 : ∀ {x1 : Int32} {x2 : Int32} {x3 : Int32} {ls : Array Slot} {H : Heap} {locs : List Loc}, Hx E σ s H locs → lv_has ls 4 [(0, .ref (gB E + 399)), (1, .int x1), (2, .int x2), (3, .int x3)] → rc20 x1 x2 x3 = some r → W p l e (RM 1) s m args below meth c H locs 0 0 (QI E below args s r σ) (F0 m 20 ls [])) (X : Hx E σ s H locs) (hl : lv_has ls 4 [(0, .ref (gB E + 399)), (1, .int x1), (3, .int x3)]) (h : X12_areRows_62 σ rc20 x1 x3 y0 = some r) : W p l e (RM 1) s m args below meth c H locs 0 0 (QI E below args s r σ) (F0 m 62 ls [.int y0]) := by
  rw [X12_areRows_62] at h
  refine lv_istore_n (lv' := [(2, .int y0), (0, .ref (gB E + 399)), (1, .int x1), (3, .int x3)]) C.1 C.2.1 dX12_areRows_62 rfl hl (by decide) rfl (fun ls hl => ?_)
  refine lv_iinc (v := (x3 + 2)) (lv' := [(3, .int (x3 + 2)), (2, .int y0), (0, .ref (gB E + 399)), (1, .int x1)]) C.1 C.2.1 dX12_areRows_63 hl (k := 3) rfl rfl (by decide) rfl (fun ls hl => ?_)
  refine lv_goto (tgt := 20) C.1 C.2.1 dX12_areRows_66 (by decide) ?_
  exact hr20 X (lv_sub hl [2, 3, 1, 0] rfl) h

set_option maxRecDepth 20000 in
theorem w_X12_areRows_61 {r : Int32} {σ : Mem} {rc20 : Int32 → Int32 → Int32 → Option Int32} {x1 : Int32} {x3 : Int32} {ls : Array Slot} {H : Heap} {locs : List Loc} (C : Cx p s m args meth c cX12_areRows (some .boolean) 4 RX12) (G : Gf E s) (hr20 : ∀ {x1 : Int32} {x2 : Int32} {x3 : Int32} {ls : Array Slot} {H : Heap} {locs : List Loc}, Hx E σ s H locs → lv_has ls 4 [(0, .ref (gB E + 399)), (1, .int x1), (2, .int x2), (3, .int x3)] → rc20 x1 x2 x3 = some r → W p l e (RM 1) s m args below meth c H locs 0 0 (QI E below args s r σ) (F0 m 20 ls [])) (X : Hx E σ s H locs) (hl : lv_has ls 4 [(0, .ref (gB E + 399)), (1, .int x1), (3, .int x3)]) (h : X12_areRows_61 σ rc20 x1 x3 = some r) : W p l e (RM 1) s m args below meth c H locs 0 0 (QI E below args s r σ) (F0 m 61 ls []) := by
  rw [X12_areRows_61] at h
  refine lv_iconst (v := 0) C.1 C.2.1 dX12_areRows_61 (by decide) ?_
  exact w_X12_areRows_62 C G hr20 X (lv_sub hl [0, 1, 2] rfl) h

set_option maxRecDepth 20000 in
theorem w_X12_areRows_20 {r : Int32} {σ : Mem} (C : Cx p s m args meth c cX12_areRows (some .boolean) 4 RX12) (G : Gf E s) : ∀ (f : Nat) {x1 : Int32} {x2 : Int32} {x3 : Int32} {ls : Array Slot} {H : Heap} {locs : List Loc}, Hx E σ s H locs → lv_has ls 4 [(0, .ref (gB E + 399)), (1, .int x1), (2, .int x2), (3, .int x3)] → X12_areRows_20 σ f x1 x2 x3 = some r → W p l e (RM 1) s m args below meth c H locs 0 0 (QI E below args s r σ) (F0 m 20 ls []) := by
  intro f
  induction f with
  | zero =>
    intro x1 x2 x3 ls H locs X hl h
    rw [X12_areRows_20] at h
    cases h
  | succ f ih =>
    intro x1 x2 x3 ls H locs X hl h
    rw [X12_areRows_20] at h
    refine lv_iload_n C.1 C.2.1 dX12_areRows_20 rfl (lv_at hl 3 rfl) ?_
    refine lv_iload_n C.1 C.2.1 dX12_areRows_21 rfl (lv_at hl 1 rfl) ?_
    refine lv_icmp_ge (tgt := 69) C.1 C.2.1 dX12_areRows_22 (by decide) (fun c22 => ?_) (fun c22 => ?_)
    · replace h := ipos c22 h
      refine lv_iload_n C.1 C.2.1 dX12_areRows_69 rfl (lv_at hl 2 rfl) ?_
      obtain ⟨u70, z70, h⟩ := bnd h
      rw [← Option.some.inj h]
      exact rtZ C X (gb_s z70) dX12_areRows_70
    · replace h := ineg c22 h
      refine lv_iload_n C.1 C.2.1 dX12_areRows_25 rfl (lv_at hl 2 rfl) ?_
      refine lv_if_eq (tgt := 69) C.1 C.2.1 dX12_areRows_26 (by decide) (fun c26 => ?_) (fun c26 => ?_)
      · replace h := ipos c26 h
        refine lv_iload_n C.1 C.2.1 dX12_areRows_69 rfl (lv_at hl 2 rfl) ?_
        obtain ⟨u70, z70, h⟩ := bnd h
        rw [← Option.some.inj h]
        exact rtZ C X (gb_s z70) dX12_areRows_70
      · replace h := ineg c26 h
        refine lv_aload_n C.1 C.2.1 dX12_areRows_29 rfl (lv_at hl 0 rfl) ?_
        refine gfX12 C G X (k := 399) kd_399 7 (v := .ref (gB E + 404)) rfl rfl (by decide) k_1658 rfl dX12_areRows_30 ?_
        refine lv_iload_n C.1 C.2.1 dX12_areRows_33 rfl (lv_at hl 3 rfl) ?_
        obtain ⟨r34, e34, h⟩ := bnd h
        refine ald C G X (k := 404) kd_404 (ag_s e34).1 dX12_areRows_34 ?_
        rw [(ag_s e34).2]
        refine lv_aload_n C.1 C.2.1 dX12_areRows_35 rfl (lv_at hl 0 rfl) ?_
        refine gfX12 C G X (k := 399) kd_399 1 (v := .ref (gB E + 400)) rfl rfl (by decide) k_1652 rfl dX12_areRows_36 ?_
        refine lv_iconst (v := 3) C.1 C.2.1 dX12_areRows_39 (by decide) ?_
        obtain ⟨r40, e40, h⟩ := bnd h
        refine ald C G X (k := 400) kd_400 (ag_s e40).1 dX12_areRows_40 ?_
        rw [(ag_s e40).2]
        refine lv_icmp_ge (tgt := 61) C.1 C.2.1 dX12_areRows_41 (by decide) (fun c41 => ?_) (fun c41 => ?_)
        · replace h := ipos c41 h
          exact w_X12_areRows_61 C G ih X (lv_sub hl [0, 1, 3] rfl) h
        · replace h := ineg c41 h
          refine lv_aload_n C.1 C.2.1 dX12_areRows_44 rfl (lv_at hl 0 rfl) ?_
          refine gfX12 C G X (k := 399) kd_399 7 (v := .ref (gB E + 404)) rfl rfl (by decide) k_1658 rfl dX12_areRows_45 ?_
          refine lv_iload_n C.1 C.2.1 dX12_areRows_48 rfl (lv_at hl 3 rfl) ?_
          refine lv_iconst (v := 1) C.1 C.2.1 dX12_areRows_49 (by decide) ?_
          refine lv_iadd C.1 C.2.1 dX12_areRows_50 ?_
          obtain ⟨r51, e51, h⟩ := bnd h
          refine ald C G X (k := 404) kd_404 (ag_s e51).1 dX12_areRows_51 ?_
          rw [(ag_s e51).2]
          refine lv_bipush (v := 20) C.1 C.2.1 dX12_areRows_52 (by decide) ?_
          refine lv_icmp_gt (tgt := 61) C.1 C.2.1 dX12_areRows_54 (by decide) (fun c54 => ?_) (fun c54 => ?_)
          · replace h := ipos c54 h
            exact w_X12_areRows_61 C G ih X (lv_sub hl [0, 1, 3] rfl) h
          · replace h := ineg c54 h
            refine lv_iconst (v := 1) C.1 C.2.1 dX12_areRows_57 (by decide) ?_
            refine lv_goto (tgt := 62) C.1 C.2.1 dX12_areRows_58 (by decide) ?_
            exact w_X12_areRows_62 C G ih X (lv_sub hl [0, 1, 3] rfl) h

set_option maxRecDepth 20000 in
theorem w_X12_areRows_17 {r : Int32} {σ : Mem} {x1 : Int32} {y0 : Int32} {ls : Array Slot} {H : Heap} {locs : List Loc} (C : Cx p s m args meth c cX12_areRows (some .boolean) 4 RX12) (G : Gf E s) (X : Hx E σ s H locs) (hl : lv_has ls 4 [(0, .ref (gB E + 399)), (1, .int x1)]) (h : X12_areRows_17 σ x1 y0 = some r) : W p l e (RM 1) s m args below meth c H locs 0 0 (QI E below args s r σ) (F0 m 17 ls [.int y0]) := by
  rw [X12_areRows_17] at h
  refine lv_istore_n (lv' := [(2, .int y0), (0, .ref (gB E + 399)), (1, .int x1)]) C.1 C.2.1 dX12_areRows_17 rfl hl (by decide) rfl (fun ls hl => ?_)
  refine lv_iconst (v := 0) C.1 C.2.1 dX12_areRows_18 (by decide) ?_
  refine lv_istore_n (lv' := [(3, .int (0 : Int32)), (2, .int y0), (0, .ref (gB E + 399)), (1, .int x1)]) C.1 C.2.1 dX12_areRows_19 rfl hl (by decide) rfl (fun ls hl => ?_)
  exact w_X12_areRows_20 C G FU X (lv_sub hl [2, 3, 1, 0] rfl) h

set_option maxRecDepth 20000 in
theorem w_X12_areRows_16 {r : Int32} {σ : Mem} {x1 : Int32} {ls : Array Slot} {H : Heap} {locs : List Loc} (C : Cx p s m args meth c cX12_areRows (some .boolean) 4 RX12) (G : Gf E s) (X : Hx E σ s H locs) (hl : lv_has ls 4 [(0, .ref (gB E + 399)), (1, .int x1)]) (h : X12_areRows_16 σ x1 = some r) : W p l e (RM 1) s m args below meth c H locs 0 0 (QI E below args s r σ) (F0 m 16 ls []) := by
  rw [X12_areRows_16] at h
  refine lv_iconst (v := 0) C.1 C.2.1 dX12_areRows_16 (by decide) ?_
  exact w_X12_areRows_17 C G X (lv_sub hl [0, 1] rfl) h

set_option maxRecDepth 20000 in
theorem w_X12_areRows {r : Int32} {σ : Mem} {x1 : Int32} {ls : Array Slot} {H : Heap} {locs : List Loc} (C : Cx p s m args meth c cX12_areRows (some .boolean) 4 RX12) (G : Gf E s) (X : Hx E σ s H locs) (hl : lv_has ls 4 [(0, .ref (gB E + 399)), (1, .int x1)]) (h : X12_areRows σ x1 = some r) : W p l e (RM 1) s m args below meth c H locs 0 0 (QI E below args s r σ) (F0 m 0 ls []) := by
  rw [X12_areRows] at h
  refine lv_iload_n C.1 C.2.1 dX12_areRows_0 rfl (lv_at hl 1 rfl) ?_
  refine lv_iconst (v := 2) C.1 C.2.1 dX12_areRows_1 (by decide) ?_
  refine lv_irem C.1 C.2.1 dX12_areRows_2 (by decide) ?_
  refine lv_if_ne (tgt := 16) C.1 C.2.1 dX12_areRows_3 (by decide) (fun c3 => ?_) (fun c3 => ?_)
  · replace h := ineg c3 h
    exact w_X12_areRows_16 C G X (lv_sub hl [0, 1] rfl) h
  · replace h := ipos c3 h
    refine lv_iload_n C.1 C.2.1 dX12_areRows_6 rfl (lv_at hl 1 rfl) ?_
    refine lv_bipush (v := 40) C.1 C.2.1 dX12_areRows_7 (by decide) ?_
    refine lv_icmp_gt (tgt := 16) C.1 C.2.1 dX12_areRows_9 (by decide) (fun c9 => ?_) (fun c9 => ?_)
    · replace h := ipos c9 h
      exact w_X12_areRows_16 C G X (lv_sub hl [0, 1] rfl) h
    · replace h := ineg c9 h
      refine lv_iconst (v := 1) C.1 C.2.1 dX12_areRows_12 (by decide) ?_
      refine lv_goto (tgt := 17) C.1 C.2.1 dX12_areRows_13 (by decide) ?_
      exact w_X12_areRows_17 C G X (lv_sub hl [0, 1] rfl) h

theorem c_X12_areRows (l : Launch) (E : GE) {σ : Mem} {x1 : Int32} {r : Int32} (h : X12_areRows σ x1 = some r) : CtI l E yX12_areRows cX12_areRows 4 .boolean 1 [.ref (gB E + 399), .int x1] σ r σ := by
  refine Met.ofW (cc := cX12_areRows) (maxL := 4) (ret := (some .boolean)) (by decide) rfl ?_
  intro p e s m args below meth c s₁ B hml hv
  obtain ⟨rfl, G, X⟩ := start hv
  have C := cxof B hml
  have hl := lv_entry [.ref (gB E + 399), .int x1] (n := 4) (Nat.le_of_ble_eq_true rfl)
  rw [lg_entry_eq]
  generalize (lg_sl [.ref (gB E + 399), .int x1] ++ List.replicate (4 - (lg_sl [.ref (gB E + 399), .int x1]).length) Slot.unset).toArray = ls at hl ⊢
  exact w_X12_areRows C G X hl h

set_option maxRecDepth 20000 in
theorem w_X12_places_48 {r : Int32} {σ : Mem} {rc8 : Int32 → Int32 → Int32 → Option Int32} {rc15 : Int32 → Int32 → Int32 → Int32 → Option Int32} {x1 : Int32} {x3 : Int32} {x4 : Int32} {y0 : Int32} {y1 : Int32} {ls : Array Slot} {H : Heap} {locs : List Loc} (C : Cx p s m args meth c cX12_places (some .int) 5 RX12) (G : Gf E s) (hr8 : ∀ {x1 : Int32} {x2 : Int32} {x3 : Int32} {ls : Array Slot} {H : Heap} {locs : List Loc}, Hx E σ s H locs → lv_has ls 5 [(0, .ref (gB E + 399)), (1, .int x1), (2, .int x2), (3, .int x3)] → rc8 x1 x2 x3 = some r → W p l e (RM 3) s m args below meth c H locs 0 0 (QI E below args s r σ) (F0 m 8 ls [])) (hr15 : ∀ {x1 : Int32} {x2 : Int32} {x3 : Int32} {x4 : Int32} {ls : Array Slot} {H : Heap} {locs : List Loc}, Hx E σ s H locs → lv_has ls 5 [(0, .ref (gB E + 399)), (1, .int x1), (2, .int x2), (3, .int x3), (4, .int x4)] → rc15 x1 x2 x3 x4 = some r → W p l e (RM 3) s m args below meth c H locs 0 0 (QI E below args s r σ) (F0 m 15 ls [])) (X : Hx E σ s H locs) (hl : lv_has ls 5 [(0, .ref (gB E + 399)), (1, .int x1), (3, .int x3), (4, .int x4)]) (h : X12_places_48 σ rc8 rc15 x1 x3 x4 y0 y1 = some r) : W p l e (RM 3) s m args below meth c H locs 0 0 (QI E below args s r σ) (F0 m 48 ls [.int y1, .int y0]) := by
  rw [X12_places_48] at h
  refine lv_iand C.1 C.2.1 dX12_places_48 ?_
  refine lv_istore_n (lv' := [(2, .int (y0 &&& y1)), (0, .ref (gB E + 399)), (1, .int x1), (3, .int x3), (4, .int x4)]) C.1 C.2.1 dX12_places_49 rfl hl (by decide) rfl (fun ls hl => ?_)
  refine lv_iinc (v := (x4 + 2)) (lv' := [(4, .int (x4 + 2)), (2, .int (y0 &&& y1)), (0, .ref (gB E + 399)), (1, .int x1), (3, .int x3)]) C.1 C.2.1 dX12_places_50 hl (k := 4) rfl rfl (by decide) rfl (fun ls hl => ?_)
  refine lv_goto (tgt := 15) C.1 C.2.1 dX12_places_53 (by decide) ?_
  exact hr15 X (lv_sub hl [2, 3, 1, 4, 0] rfl) h

set_option maxRecDepth 20000 in
theorem w_X12_places_15 {r : Int32} {σ : Mem} {rc8 : Int32 → Int32 → Int32 → Option Int32} (C : Cx p s m args meth c cX12_places (some .int) 5 RX12) (G : Gf E s) (hr8 : ∀ {x1 : Int32} {x2 : Int32} {x3 : Int32} {ls : Array Slot} {H : Heap} {locs : List Loc}, Hx E σ s H locs → lv_has ls 5 [(0, .ref (gB E + 399)), (1, .int x1), (2, .int x2), (3, .int x3)] → rc8 x1 x2 x3 = some r → W p l e (RM 3) s m args below meth c H locs 0 0 (QI E below args s r σ) (F0 m 8 ls [])) : ∀ (f : Nat) {x1 : Int32} {x2 : Int32} {x3 : Int32} {x4 : Int32} {ls : Array Slot} {H : Heap} {locs : List Loc}, Hx E σ s H locs → lv_has ls 5 [(0, .ref (gB E + 399)), (1, .int x1), (2, .int x2), (3, .int x3), (4, .int x4)] → X12_places_15 σ rc8 f x1 x2 x3 x4 = some r → W p l e (RM 3) s m args below meth c H locs 0 0 (QI E below args s r σ) (F0 m 15 ls []) := by
  intro f
  induction f with
  | zero =>
    intro x1 x2 x3 x4 ls H locs X hl h
    rw [X12_places_15] at h
    cases h
  | succ f ih =>
    intro x1 x2 x3 x4 ls H locs X hl h
    rw [X12_places_15] at h
    refine lv_iload C.1 C.2.1 dX12_places_15 (lv_at hl 4 rfl) ?_
    refine lv_iload_n C.1 C.2.1 dX12_places_17 rfl (lv_at hl 1 rfl) ?_
    refine lv_icmp_ge (tgt := 56) C.1 C.2.1 dX12_places_18 (by decide) (fun c18 => ?_) (fun c18 => ?_)
    · replace h := ipos c18 h
      refine lv_iload_n C.1 C.2.1 dX12_places_56 rfl (lv_at hl 3 rfl) ?_
      refine lv_if_le (tgt := 68) C.1 C.2.1 dX12_places_57 (by decide) (fun c57 => ?_) (fun c57 => ?_)
      · replace h := ipos c57 h
        refine lv_iinc (v := (x3 + (-1))) (lv' := [(3, .int (x3 + (-1))), (0, .ref (gB E + 399)), (1, .int x1), (2, .int x2), (4, .int x4)]) C.1 C.2.1 dX12_places_68 hl (k := 3) rfl rfl (by decide) rfl (fun ls hl => ?_)
        refine lv_goto (tgt := 8) C.1 C.2.1 dX12_places_71 (by decide) ?_
        exact hr8 X (lv_sub hl [1, 2, 3, 0] rfl) h
      · replace h := ineg c57 h
        refine lv_iload_n C.1 C.2.1 dX12_places_60 rfl (lv_at hl 2 rfl) ?_
        refine lv_aload_n C.1 C.2.1 dX12_places_61 rfl (lv_at hl 0 rfl) ?_
        refine lv_iload_n C.1 C.2.1 dX12_places_62 rfl (lv_at hl 2 rfl) ?_
        obtain ⟨r63, e63, h⟩ := bnd h
        refine afI X (runV C G X q_X12_nextTo k_1947 kp_67 k_1945 (rcX12 G X kd_399) (c_X12_nextTo l E e63) rfl hl.1 rfl (Nat.le_of_ble_eq_true rfl) ⟨Nat.le_of_ble_eq_true rfl, Nat.le_of_ble_eq_true rfl⟩ ⟨Nat.le_of_ble_eq_true rfl, Nat.le_of_ble_eq_true rfl⟩ dX12_places_63) (fun H locs X => ?_)
        refine lv_ior C.1 C.2.1 dX12_places_66 ?_
        refine lv_istore_n (lv' := [(2, .int (x2 ||| r63)), (0, .ref (gB E + 399)), (1, .int x1), (3, .int x3), (4, .int x4)]) C.1 C.2.1 dX12_places_67 rfl hl (by decide) rfl (fun ls hl => ?_)
        refine lv_iinc (v := (x3 + (-1))) (lv' := [(3, .int (x3 + (-1))), (2, .int (x2 ||| r63)), (0, .ref (gB E + 399)), (1, .int x1), (4, .int x4)]) C.1 C.2.1 dX12_places_68 hl (k := 3) rfl rfl (by decide) rfl (fun ls hl => ?_)
        refine lv_goto (tgt := 8) C.1 C.2.1 dX12_places_71 (by decide) ?_
        exact hr8 X (lv_sub hl [2, 3, 1, 0] rfl) h
    · replace h := ineg c18 h
      refine lv_iload_n C.1 C.2.1 dX12_places_21 rfl (lv_at hl 2 rfl) ?_
      refine lv_aload_n C.1 C.2.1 dX12_places_22 rfl (lv_at hl 0 rfl) ?_
      refine gfX12 C G X (k := 399) kd_399 7 (v := .ref (gB E + 404)) rfl rfl (by decide) k_1658 rfl dX12_places_23 ?_
      refine lv_iload C.1 C.2.1 dX12_places_26 (lv_at hl 4 rfl) ?_
      refine lv_iconst (v := 1) C.1 C.2.1 dX12_places_28 (by decide) ?_
      refine lv_iadd C.1 C.2.1 dX12_places_29 ?_
      obtain ⟨r30, e30, h⟩ := bnd h
      refine ald C G X (k := 404) kd_404 (ag_s e30).1 dX12_places_30 ?_
      rw [(ag_s e30).2]
      refine lv_iload_n C.1 C.2.1 dX12_places_31 rfl (lv_at hl 3 rfl) ?_
      refine lv_icmp_ne (tgt := 47) C.1 C.2.1 dX12_places_32 (by decide) (fun c32 => ?_) (fun c32 => ?_)
      · replace h := ineg c32 h
        refine lv_iload_n C.1 C.2.1 dX12_places_47 rfl (lv_at hl 2 rfl) ?_
        exact w_X12_places_48 C G hr8 ih X (lv_sub hl [0, 1, 3, 4] rfl) h
      · replace h := ipos c32 h
        refine lv_iconst (v := 1) C.1 C.2.1 dX12_places_35 (by decide) ?_
        refine lv_aload_n C.1 C.2.1 dX12_places_36 rfl (lv_at hl 0 rfl) ?_
        refine gfX12 C G X (k := 399) kd_399 7 (v := .ref (gB E + 404)) rfl rfl (by decide) k_1658 rfl dX12_places_37 ?_
        refine lv_iload C.1 C.2.1 dX12_places_40 (lv_at hl 4 rfl) ?_
        obtain ⟨r42, e42, h⟩ := bnd h
        refine ald C G X (k := 404) kd_404 (ag_s e42).1 dX12_places_42 ?_
        rw [(ag_s e42).2]
        refine lv_ishl C.1 C.2.1 dX12_places_43 ?_
        refine lv_goto (tgt := 48) C.1 C.2.1 dX12_places_44 (by decide) ?_
        exact w_X12_places_48 C G hr8 ih X (lv_sub hl [0, 1, 3, 4] rfl) h

set_option maxRecDepth 20000 in
theorem w_X12_places_8 {r : Int32} {σ : Mem} (C : Cx p s m args meth c cX12_places (some .int) 5 RX12) (G : Gf E s) : ∀ (f : Nat) {x1 : Int32} {x2 : Int32} {x3 : Int32} {ls : Array Slot} {H : Heap} {locs : List Loc}, Hx E σ s H locs → lv_has ls 5 [(0, .ref (gB E + 399)), (1, .int x1), (2, .int x2), (3, .int x3)] → X12_places_8 σ f x1 x2 x3 = some r → W p l e (RM 3) s m args below meth c H locs 0 0 (QI E below args s r σ) (F0 m 8 ls []) := by
  intro f
  induction f with
  | zero =>
    intro x1 x2 x3 ls H locs X hl h
    rw [X12_places_8] at h
    cases h
  | succ f ih =>
    intro x1 x2 x3 ls H locs X hl h
    rw [X12_places_8] at h
    refine lv_iload_n C.1 C.2.1 dX12_places_8 rfl (lv_at hl 3 rfl) ?_
    refine lv_if_lt (tgt := 74) C.1 C.2.1 dX12_places_9 (by decide) (fun c9 => ?_) (fun c9 => ?_)
    · replace h := ipos c9 h
      refine lv_iload_n C.1 C.2.1 dX12_places_74 rfl (lv_at hl 2 rfl) ?_
      rw [← Option.some.inj h]
      exact rtI C X dX12_places_75
    · replace h := ineg c9 h
      refine lv_iconst (v := 0) C.1 C.2.1 dX12_places_12 (by decide) ?_
      refine lv_istore (lv' := [(4, .int (0 : Int32)), (0, .ref (gB E + 399)), (1, .int x1), (2, .int x2), (3, .int x3)]) C.1 C.2.1 dX12_places_13 hl (by decide) rfl (fun ls hl => ?_)
      exact w_X12_places_15 C G ih FU X (lv_sub hl [1, 2, 3, 4, 0] rfl) h

set_option maxRecDepth 20000 in
theorem w_X12_places {r : Int32} {σ : Mem} {x1 : Int32} {ls : Array Slot} {H : Heap} {locs : List Loc} (C : Cx p s m args meth c cX12_places (some .int) 5 RX12) (G : Gf E s) (X : Hx E σ s H locs) (hl : lv_has ls 5 [(0, .ref (gB E + 399)), (1, .int x1)]) (h : X12_places σ x1 = some r) : W p l e (RM 3) s m args below meth c H locs 0 0 (QI E below args s r σ) (F0 m 0 ls []) := by
  rw [X12_places] at h
  refine lv_aload_n C.1 C.2.1 dX12_places_0 rfl (lv_at hl 0 rfl) ?_
  obtain ⟨r1, e1, h⟩ := bnd h
  refine afI X (runV C G X q_X12_allPanes k_2106 kp_86 k_2104 (rcX12 G X kd_399) (c_X12_allPanes l E e1) rfl hl.1 rfl (Nat.le_of_ble_eq_true rfl) ⟨Nat.le_of_ble_eq_true rfl, Nat.le_of_ble_eq_true rfl⟩ ⟨Nat.le_of_ble_eq_true rfl, Nat.le_of_ble_eq_true rfl⟩ dX12_places_1) (fun H locs X => ?_)
  refine lv_istore_n (lv' := [(2, .int r1), (0, .ref (gB E + 399)), (1, .int x1)]) C.1 C.2.1 dX12_places_4 rfl hl (by decide) rfl (fun ls hl => ?_)
  refine lv_bipush (v := 20) C.1 C.2.1 dX12_places_5 (by decide) ?_
  refine lv_istore_n (lv' := [(3, .int (20 : Int32)), (2, .int r1), (0, .ref (gB E + 399)), (1, .int x1)]) C.1 C.2.1 dX12_places_7 rfl hl (by decide) rfl (fun ls hl => ?_)
  exact w_X12_places_8 C G FU X (lv_sub hl [2, 3, 1, 0] rfl) h

theorem c_X12_places (l : Launch) (E : GE) {σ : Mem} {x1 : Int32} {r : Int32} (h : X12_places σ x1 = some r) : CtI l E yX12_places cX12_places 5 .int 3 [.ref (gB E + 399), .int x1] σ r σ := by
  refine Met.ofW (cc := cX12_places) (maxL := 5) (ret := (some .int)) (by decide) rfl ?_
  intro p e s m args below meth c s₁ B hml hv
  obtain ⟨rfl, G, X⟩ := start hv
  have C := cxof B hml
  have hl := lv_entry [.ref (gB E + 399), .int x1] (n := 5) (Nat.le_of_ble_eq_true rfl)
  rw [lg_entry_eq]
  generalize (lg_sl [.ref (gB E + 399), .int x1] ++ List.replicate (5 - (lg_sl [.ref (gB E + 399), .int x1]).length) Slot.unset).toArray = ls at hl ⊢
  exact w_X12_places C G X hl h

set_option maxRecDepth 20000 in
theorem w_X12_whoLit_24 {r : (Int32 × Mem)} {σ : Mem} {x1 : Int32} {y1 : Int32} {ls : Array Slot} {H : Heap} {locs : List Loc} (C : Cx p s m args meth c cX12_whoLit (some .int) 2 RX12) (G : Gf E s) (X : Hx E σ s H locs) (hl : lv_has ls 2 [(0, .ref (gB E + 399)), (1, .int x1)]) (h : X12_whoLit_24 x1 y1 σ = some r) : W p l e (RM 4) s m args below meth c H locs 0 0 (QI E below args s r.1 r.2) (F0 m 24 ls [.int y1, .ref (gB E + 399)]) := by
  rw [X12_whoLit_24] at h
  obtain ⟨σ24, e24, h⟩ := bnd h
  refine pfX12 C G X (k := 399) kd_399 0 (x := y1) (ty := .int) rfl rfl (Nat.le_of_ble_eq_true rfl) (by decide) k_1651 rfl rfl (by decide +kernel) rfl rfl dX12_whoLit_24 (fun H locs X => ?_)
  replace X := pu_x e24 X
  refine lv_aload_n C.1 C.2.1 dX12_whoLit_27 rfl (lv_at hl 0 rfl) ?_
  refine gfX12 C G X (k := 399) kd_399 0 (v := .int (σ24 399 0)) rfl rfl (by decide) k_1651 rfl dX12_whoLit_28 ?_
  refine lv_if_le (tgt := 38) C.1 C.2.1 dX12_whoLit_31 (by decide) (fun c31 => ?_) (fun c31 => ?_)
  · replace h := ipos c31 h
    refine lv_aload_n C.1 C.2.1 dX12_whoLit_38 rfl (lv_at hl 0 rfl) ?_
    refine lv_iload_n C.1 C.2.1 dX12_whoLit_39 rfl (lv_at hl 1 rfl) ?_
    obtain ⟨r40, e40, h⟩ := bnd h
    refine afI X (runV C G X q_X12_places k_2149 kp_91 k_2147 (rcX12 G X kd_399) (c_X12_places l E e40) rfl hl.1 rfl (Nat.le_of_ble_eq_true rfl) ⟨Nat.le_of_ble_eq_true rfl, Nat.le_of_ble_eq_true rfl⟩ ⟨Nat.le_of_ble_eq_true rfl, Nat.le_of_ble_eq_true rfl⟩ dX12_whoLit_40) (fun H locs X => ?_)
    rw [← Option.some.inj h]
    exact rtI C X dX12_whoLit_43
  · replace h := ineg c31 h
    refine lv_iconst (v := 0) C.1 C.2.1 dX12_whoLit_34 (by decide) ?_
    refine lv_goto (tgt := 43) C.1 C.2.1 dX12_whoLit_35 (by decide) ?_
    rw [← Option.some.inj h]
    exact rtI C X dX12_whoLit_43

set_option maxRecDepth 20000 in
theorem w_X12_whoLit {r : (Int32 × Mem)} {σ : Mem} {ls : Array Slot} {H : Heap} {locs : List Loc} (C : Cx p s m args meth c cX12_whoLit (some .int) 2 RX12) (G : Gf E s) (X : Hx E σ s H locs) (hl : lv_has ls 2 [(0, .ref (gB E + 399))]) (h : X12_whoLit σ = some r) : W p l e (RM 4) s m args below meth c H locs 0 0 (QI E below args s r.1 r.2) (F0 m 0 ls []) := by
  rw [X12_whoLit] at h
  refine lv_aload_n C.1 C.2.1 dX12_whoLit_0 rfl (lv_at hl 0 rfl) ?_
  refine gfX12 C G X (k := 399) kd_399 8 (v := .int (σ 399 8)) rfl rfl (by decide) k_1659 rfl dX12_whoLit_1 ?_
  refine lv_istore_n (lv' := [(1, .int (σ 399 8)), (0, .ref (gB E + 399))]) C.1 C.2.1 dX12_whoLit_4 rfl hl (by decide) rfl (fun ls hl => ?_)
  refine lv_aload_n C.1 C.2.1 dX12_whoLit_5 rfl (lv_at hl 1 rfl) ?_
  refine lv_iconst (v := 0) C.1 C.2.1 dX12_whoLit_6 (by decide) ?_
  obtain ⟨σ7, e7, h⟩ := bnd h
  refine pfX12 C G X (k := 399) kd_399 8 (x := (0 : Int32)) (ty := .int) rfl rfl (Nat.le_of_ble_eq_true rfl) (by decide) k_1659 rfl rfl (by decide +kernel) rfl rfl dX12_whoLit_7 (fun H locs X => ?_)
  replace X := pu_x e7 X
  refine lv_aload_n C.1 C.2.1 dX12_whoLit_10 rfl (lv_at hl 1 rfl) ?_
  refine lv_aload_n C.1 C.2.1 dX12_whoLit_11 rfl (lv_at hl 1 rfl) ?_
  refine lv_iload_n C.1 C.2.1 dX12_whoLit_12 rfl (lv_at hl 0 rfl) ?_
  obtain ⟨r13, e13, h⟩ := bnd h
  refine afI X (runV C G X q_X12_areRows k_2145 kp_90 k_2143 (rcX12 G X kd_399) (c_X12_areRows l E e13) rfl hl.1 rfl (Nat.le_of_ble_eq_true rfl) ⟨Nat.le_of_ble_eq_true rfl, Nat.le_of_ble_eq_true rfl⟩ ⟨Nat.le_of_ble_eq_true rfl, Nat.le_of_ble_eq_true rfl⟩ dX12_whoLit_13) (fun H locs X => ?_)
  refine lv_if_ne (tgt := 23) C.1 C.2.1 dX12_whoLit_16 (by decide) (fun c16 => ?_) (fun c16 => ?_)
  · replace h := ineg c16 h
    refine lv_iconst (v := 0) C.1 C.2.1 dX12_whoLit_23 (by decide) ?_
    exact w_X12_whoLit_24 C G X (lv_sub hl [1, 0] rfl) h
  · replace h := ipos c16 h
    refine lv_iconst (v := 1) C.1 C.2.1 dX12_whoLit_19 (by decide) ?_
    refine lv_goto (tgt := 24) C.1 C.2.1 dX12_whoLit_20 (by decide) ?_
    exact w_X12_whoLit_24 C G X (lv_sub hl [1, 0] rfl) h

theorem c_X12_whoLit (l : Launch) (E : GE) {σ : Mem} {r : (Int32 × Mem)} (h : X12_whoLit σ = some r) : CtI l E yX12_whoLit cX12_whoLit 2 .int 4 [.ref (gB E + 399)] σ r.1 r.2 := by
  refine Met.ofW (cc := cX12_whoLit) (maxL := 2) (ret := (some .int)) (by decide) rfl ?_
  intro p e s m args below meth c s₁ B hml hv
  obtain ⟨rfl, G, X⟩ := start hv
  have C := cxof B hml
  have hl := lv_entry [.ref (gB E + 399)] (n := 2) (Nat.le_of_ble_eq_true rfl)
  rw [lg_entry_eq]
  generalize (lg_sl [.ref (gB E + 399)] ++ List.replicate (2 - (lg_sl [.ref (gB E + 399)]).length) Slot.unset).toArray = ls at hl ⊢
  exact w_X12_whoLit C G X hl h

set_option maxRecDepth 20000 in
theorem w_X12_asFar_49 {r : Int32} {σ : Mem} {rc6 : Int32 → Int32 → Int32 → Int32 → Int32 → Option Int32} {x1 : Int32} {x2 : Int32} {x3 : Int32} {x5 : Int32} {y0 : Int32} {y1 : Int32} {ls : Array Slot} {H : Heap} {locs : List Loc} (C : Cx p s m args meth c cX12_asFar (some .int) 6 RX12) (G : Gf E s) (hr6 : ∀ {x1 : Int32} {x2 : Int32} {x3 : Int32} {x4 : Int32} {x5 : Int32} {ls : Array Slot} {H : Heap} {locs : List Loc}, Hx E σ s H locs → lv_has ls 6 [(0, .ref (gB E + 399)), (1, .int x1), (2, .int x2), (3, .int x3), (4, .int x4), (5, .int x5)] → rc6 x1 x2 x3 x4 x5 = some r → W p l e (RM 4) s m args below meth c H locs 0 0 (QI E below args s r σ) (F0 m 6 ls [])) (X : Hx E σ s H locs) (hl : lv_has ls 6 [(0, .ref (gB E + 399)), (1, .int x1), (2, .int x2), (3, .int x3), (5, .int x5)]) (h : X12_asFar_49 σ rc6 x1 x2 x3 x5 y0 y1 = some r) : W p l e (RM 4) s m args below meth c H locs 0 0 (QI E below args s r σ) (F0 m 49 ls [.int y1, .int y0]) := by
  rw [X12_asFar_49] at h
  refine lv_iadd C.1 C.2.1 dX12_asFar_49 ?_
  refine lv_istore (lv' := [(4, .int (y0 + y1)), (0, .ref (gB E + 399)), (1, .int x1), (2, .int x2), (3, .int x3), (5, .int x5)]) C.1 C.2.1 dX12_asFar_50 hl (by decide) rfl (fun ls hl => ?_)
  refine lv_iinc (v := (x5 + 1)) (lv' := [(5, .int (x5 + 1)), (4, .int (y0 + y1)), (0, .ref (gB E + 399)), (1, .int x1), (2, .int x2), (3, .int x3)]) C.1 C.2.1 dX12_asFar_52 hl (k := 5) rfl rfl (by decide) rfl (fun ls hl => ?_)
  refine lv_goto (tgt := 6) C.1 C.2.1 dX12_asFar_55 (by decide) ?_
  exact hr6 X (lv_sub hl [2, 3, 4, 5, 1, 0] rfl) h

set_option maxRecDepth 20000 in
theorem w_X12_asFar_48 {r : Int32} {σ : Mem} {rc6 : Int32 → Int32 → Int32 → Int32 → Int32 → Option Int32} {x1 : Int32} {x2 : Int32} {x3 : Int32} {x5 : Int32} {y0 : Int32} {ls : Array Slot} {H : Heap} {locs : List Loc} (C : Cx p s m args meth c cX12_asFar (some .int) 6 RX12) (G : Gf E s) (hr6 : ∀ {x1 : Int32} {x2 : Int32} {x3 : Int32} {x4 : Int32} {x5 : Int32} {ls : Array Slot} {H : Heap} {locs : List Loc}, Hx E σ s H locs → lv_has ls 6 [(0, .ref (gB E + 399)), (1, .int x1), (2, .int x2), (3, .int x3), (4, .int x4), (5, .int x5)] → rc6 x1 x2 x3 x4 x5 = some r → W p l e (RM 4) s m args below meth c H locs 0 0 (QI E below args s r σ) (F0 m 6 ls [])) (X : Hx E σ s H locs) (hl : lv_has ls 6 [(0, .ref (gB E + 399)), (1, .int x1), (2, .int x2), (3, .int x3), (5, .int x5)]) (h : X12_asFar_48 σ rc6 x1 x2 x3 x5 y0 = some r) : W p l e (RM 4) s m args below meth c H locs 0 0 (QI E below args s r σ) (F0 m 48 ls [.int y0]) := by
  rw [X12_asFar_48] at h
  refine lv_iconst (v := 0) C.1 C.2.1 dX12_asFar_48 (by decide) ?_
  exact w_X12_asFar_49 C G hr6 X (lv_sub hl [0, 1, 2, 3, 4] rfl) h

set_option maxRecDepth 20000 in
theorem w_X12_asFar_6 {r : Int32} {σ : Mem} (C : Cx p s m args meth c cX12_asFar (some .int) 6 RX12) (G : Gf E s) : ∀ (f : Nat) {x1 : Int32} {x2 : Int32} {x3 : Int32} {x4 : Int32} {x5 : Int32} {ls : Array Slot} {H : Heap} {locs : List Loc}, Hx E σ s H locs → lv_has ls 6 [(0, .ref (gB E + 399)), (1, .int x1), (2, .int x2), (3, .int x3), (4, .int x4), (5, .int x5)] → X12_asFar_6 σ f x1 x2 x3 x4 x5 = some r → W p l e (RM 4) s m args below meth c H locs 0 0 (QI E below args s r σ) (F0 m 6 ls []) := by
  intro f
  induction f with
  | zero =>
    intro x1 x2 x3 x4 x5 ls H locs X hl h
    rw [X12_asFar_6] at h
    cases h
  | succ f ih =>
    intro x1 x2 x3 x4 x5 ls H locs X hl h
    rw [X12_asFar_6] at h
    refine lv_iload C.1 C.2.1 dX12_asFar_6 (lv_at hl 5 rfl) ?_
    refine lv_aload_n C.1 C.2.1 dX12_asFar_8 rfl (lv_at hl 0 rfl) ?_
    refine gfX12 C G X (k := 399) kd_399 1 (v := .ref (gB E + 400)) rfl rfl (by decide) k_1652 rfl dX12_asFar_9 ?_
    refine lv_iconst (v := 3) C.1 C.2.1 dX12_asFar_12 (by decide) ?_
    obtain ⟨r13, e13, h⟩ := bnd h
    refine ald C G X (k := 400) kd_400 (ag_s e13).1 dX12_asFar_13 ?_
    rw [(ag_s e13).2]
    refine lv_icmp_ge (tgt := 58) C.1 C.2.1 dX12_asFar_14 (by decide) (fun c14 => ?_) (fun c14 => ?_)
    · replace h := ipos c14 h
      refine lv_iload C.1 C.2.1 dX12_asFar_58 (lv_at hl 4 rfl) ?_
      rw [← Option.some.inj h]
      exact rtI C X dX12_asFar_60
    · replace h := ineg c14 h
      refine lv_iload C.1 C.2.1 dX12_asFar_17 (lv_at hl 4 rfl) ?_
      refine lv_iload_n C.1 C.2.1 dX12_asFar_19 rfl (lv_at hl 1 rfl) ?_
      refine lv_iload C.1 C.2.1 dX12_asFar_20 (lv_at hl 5 rfl) ?_
      obtain ⟨r22, e22, h⟩ := bnd h
      refine afI X (runS C G X q_X12_isOf k_1943 k_1942 (c_X12_isOf l E e22) rfl hl.1 rfl (Nat.le_of_ble_eq_true rfl) ⟨Nat.le_of_ble_eq_true rfl, Nat.le_of_ble_eq_true rfl⟩ ⟨Nat.le_of_ble_eq_true rfl, Nat.le_of_ble_eq_true rfl⟩ dX12_asFar_22) (fun H locs X => ?_)
      refine lv_if_eq (tgt := 48) C.1 C.2.1 dX12_asFar_25 (by decide) (fun c25 => ?_) (fun c25 => ?_)
      · replace h := ipos c25 h
        exact w_X12_asFar_48 C G ih X (lv_sub hl [0, 1, 2, 3, 5] rfl) h
      · replace h := ineg c25 h
        refine lv_aload_n C.1 C.2.1 dX12_asFar_28 rfl (lv_at hl 0 rfl) ?_
        refine lv_iload_n C.1 C.2.1 dX12_asFar_29 rfl (lv_at hl 2 rfl) ?_
        refine lv_iload C.1 C.2.1 dX12_asFar_30 (lv_at hl 5 rfl) ?_
        obtain ⟨r32, e32, h⟩ := bnd h
        refine afI X (runV C G X q_X12_farOf k_1940 kp_66 k_1938 (rcX12 G X kd_399) (c_X12_farOf l E e32) rfl hl.1 rfl (Nat.le_of_ble_eq_true rfl) ⟨Nat.le_of_ble_eq_true rfl, Nat.le_of_ble_eq_true rfl⟩ ⟨Nat.le_of_ble_eq_true rfl, Nat.le_of_ble_eq_true rfl⟩ dX12_asFar_32) (fun H locs X => ?_)
        refine lv_aload_n C.1 C.2.1 dX12_asFar_35 rfl (lv_at hl 0 rfl) ?_
        refine lv_iload_n C.1 C.2.1 dX12_asFar_36 rfl (lv_at hl 2 rfl) ?_
        refine lv_iload_n C.1 C.2.1 dX12_asFar_37 rfl (lv_at hl 3 rfl) ?_
        obtain ⟨r38, e38, h⟩ := bnd h
        refine afI X (runV C G X q_X12_farOf k_1940 kp_66 k_1938 (rcX12 G X kd_399) (c_X12_farOf l E e38) rfl hl.1 rfl (Nat.le_of_ble_eq_true rfl) ⟨Nat.le_of_ble_eq_true rfl, Nat.le_of_ble_eq_true rfl⟩ ⟨Nat.le_of_ble_eq_true rfl, Nat.le_of_ble_eq_true rfl⟩ dX12_asFar_38) (fun H locs X => ?_)
        refine lv_icmp_ne (tgt := 48) C.1 C.2.1 dX12_asFar_41 (by decide) (fun c41 => ?_) (fun c41 => ?_)
        · replace h := ineg c41 h
          exact w_X12_asFar_48 C G ih X (lv_sub hl [0, 1, 2, 3, 5] rfl) h
        · replace h := ipos c41 h
          refine lv_iconst (v := 1) C.1 C.2.1 dX12_asFar_44 (by decide) ?_
          refine lv_goto (tgt := 49) C.1 C.2.1 dX12_asFar_45 (by decide) ?_
          exact w_X12_asFar_49 C G ih X (lv_sub hl [0, 1, 2, 3, 5] rfl) h

set_option maxRecDepth 20000 in
theorem w_X12_asFar {r : Int32} {σ : Mem} {x1 : Int32} {x2 : Int32} {x3 : Int32} {ls : Array Slot} {H : Heap} {locs : List Loc} (C : Cx p s m args meth c cX12_asFar (some .int) 6 RX12) (G : Gf E s) (X : Hx E σ s H locs) (hl : lv_has ls 6 [(0, .ref (gB E + 399)), (1, .int x1), (2, .int x2), (3, .int x3)]) (h : X12_asFar σ x1 x2 x3 = some r) : W p l e (RM 4) s m args below meth c H locs 0 0 (QI E below args s r σ) (F0 m 0 ls []) := by
  rw [X12_asFar] at h
  refine lv_iconst (v := 0) C.1 C.2.1 dX12_asFar_0 (by decide) ?_
  refine lv_istore (lv' := [(4, .int (0 : Int32)), (0, .ref (gB E + 399)), (1, .int x1), (2, .int x2), (3, .int x3)]) C.1 C.2.1 dX12_asFar_1 hl (by decide) rfl (fun ls hl => ?_)
  refine lv_iconst (v := 0) C.1 C.2.1 dX12_asFar_3 (by decide) ?_
  refine lv_istore (lv' := [(5, .int (0 : Int32)), (4, .int (0 : Int32)), (0, .ref (gB E + 399)), (1, .int x1), (2, .int x2), (3, .int x3)]) C.1 C.2.1 dX12_asFar_4 hl (by decide) rfl (fun ls hl => ?_)
  exact w_X12_asFar_6 C G FU X (lv_sub hl [2, 3, 4, 5, 1, 0] rfl) h

theorem c_X12_asFar (l : Launch) (E : GE) {σ : Mem} {x1 : Int32} {x2 : Int32} {x3 : Int32} {r : Int32} (h : X12_asFar σ x1 x2 x3 = some r) : CtI l E yX12_asFar cX12_asFar 6 .int 4 [.ref (gB E + 399), .int x1, .int x2, .int x3] σ r σ := by
  refine Met.ofW (cc := cX12_asFar) (maxL := 6) (ret := (some .int)) (by decide) rfl ?_
  intro p e s m args below meth c s₁ B hml hv
  obtain ⟨rfl, G, X⟩ := start hv
  have C := cxof B hml
  have hl := lv_entry [.ref (gB E + 399), .int x1, .int x2, .int x3] (n := 6) (Nat.le_of_ble_eq_true rfl)
  rw [lg_entry_eq]
  generalize (lg_sl [.ref (gB E + 399), .int x1, .int x2, .int x3] ++ List.replicate (6 - (lg_sl [.ref (gB E + 399), .int x1, .int x2, .int x3]).length) Slot.unset).toArray = ls at hl ⊢
  exact w_X12_asFar C G X hl h

set_option maxRecDepth 20000 in
theorem w_X12_ask_77 {r : (Int32 × Mem)} {rc52 : Int32 → Int32 → Int32 → Int32 → Mem → Option (Int32 × Mem)} (C : Cx p s m args meth c cX12_ask (some .int) 8 RX12) (G : Gf E s) (hr52 : ∀ {x2 : Int32} {x3 : Int32} {x4 : Int32} {x5 : Int32} {σ : Mem} {ls : Array Slot} {H : Heap} {locs : List Loc}, Hx E σ s H locs → lv_has ls 8 [(0, .ref (gB E + 399)), (2, .int x2), (3, .int x3), (4, .int x4), (5, .int x5)] → rc52 x2 x3 x4 x5 σ = some r → W p l e (RM 5) s m args below meth c H locs 0 0 (QI E below args s r.1 r.2) (F0 m 52 ls [])) : ∀ (f : Nat) {x2 : Int32} {x3 : Int32} {x4 : Int32} {x5 : Int32} {x6 : Int32} {x7 : Int32} {σ : Mem} {ls : Array Slot} {H : Heap} {locs : List Loc}, Hx E σ s H locs → lv_has ls 8 [(0, .ref (gB E + 399)), (2, .int x2), (3, .int x3), (4, .int x4), (5, .int x5), (6, .int x6), (7, .int x7)] → X12_ask_77 rc52 f x2 x3 x4 x5 x6 x7 σ = some r → W p l e (RM 5) s m args below meth c H locs 0 0 (QI E below args s r.1 r.2) (F0 m 77 ls []) := by
  intro f
  induction f with
  | zero =>
    intro x2 x3 x4 x5 x6 x7 σ ls H locs X hl h
    rw [X12_ask_77] at h
    cases h
  | succ f ih =>
    intro x2 x3 x4 x5 x6 x7 σ ls H locs X hl h
    rw [X12_ask_77] at h
    refine lv_iload C.1 C.2.1 dX12_ask_77 (lv_at hl 6 rfl) ?_
    refine lv_aload_n C.1 C.2.1 dX12_ask_79 rfl (lv_at hl 0 rfl) ?_
    refine gfX12 C G X (k := 399) kd_399 1 (v := .ref (gB E + 400)) rfl rfl (by decide) k_1652 rfl dX12_ask_80 ?_
    refine lv_iconst (v := 3) C.1 C.2.1 dX12_ask_83 (by decide) ?_
    obtain ⟨r84, e84, h⟩ := bnd h
    refine ald C G X (k := 400) kd_400 (ag_s e84).1 dX12_ask_84 ?_
    rw [(ag_s e84).2]
    refine lv_icmp_ge (tgt := 119) C.1 C.2.1 dX12_ask_85 (by decide) (fun c85 => ?_) (fun c85 => ?_)
    · replace h := ipos c85 h
      refine lv_iload C.1 C.2.1 dX12_ask_119 (lv_at hl 5 rfl) ?_
      refine lv_iload C.1 C.2.1 dX12_ask_121 (lv_at hl 3 rfl) ?_
      refine lv_icmp_lt (tgt := 129) C.1 C.2.1 dX12_ask_123 (by decide) (fun c123 => ?_) (fun c123 => ?_)
      · replace h := ipos c123 h
        refine lv_iload C.1 C.2.1 dX12_ask_129 (lv_at hl 5 rfl) ?_
        refine lv_istore (lv' := [(4, .int x6), (0, .ref (gB E + 399)), (2, .int x2), (3, .int x3), (5, .int x5), (6, .int x6), (7, .int x7)]) C.1 C.2.1 dX12_ask_131 hl (by decide) rfl (fun ls hl => ?_)
        refine lv_iload C.1 C.2.1 dX12_ask_133 (lv_at hl 4 rfl) ?_
        refine lv_istore_n (lv' := [(3, .int x5), (4, .int x6), (0, .ref (gB E + 399)), (2, .int x2), (5, .int x5), (6, .int x6), (7, .int x7)]) C.1 C.2.1 dX12_ask_135 rfl hl (by decide) rfl (fun ls hl => ?_)
        refine lv_iinc (v := (x5 + 1)) (lv' := [(5, .int (x5 + 1)), (3, .int x5), (4, .int x6), (0, .ref (gB E + 399)), (2, .int x2), (6, .int x6), (7, .int x7)]) C.1 C.2.1 dX12_ask_136 hl (k := 4) rfl rfl (by decide) rfl (fun ls hl => ?_)
        refine lv_goto (tgt := 52) C.1 C.2.1 dX12_ask_139 (by decide) ?_
        exact hr52 X (lv_sub hl [3, 4, 1, 2, 0] rfl) h
      · replace h := ineg c123 h
        refine lv_goto (tgt := 136) C.1 C.2.1 dX12_ask_126 (by decide) ?_
        refine lv_iinc (v := (x5 + 1)) (lv' := [(5, .int (x5 + 1)), (0, .ref (gB E + 399)), (2, .int x2), (3, .int x3), (4, .int x4), (6, .int x6), (7, .int x7)]) C.1 C.2.1 dX12_ask_136 hl (k := 4) rfl rfl (by decide) rfl (fun ls hl => ?_)
        refine lv_goto (tgt := 52) C.1 C.2.1 dX12_ask_139 (by decide) ?_
        exact hr52 X (lv_sub hl [1, 2, 3, 4, 0] rfl) h
    · replace h := ineg c85 h
      refine lv_iload_n C.1 C.2.1 dX12_ask_88 rfl (lv_at hl 1 rfl) ?_
      refine lv_iload C.1 C.2.1 dX12_ask_89 (lv_at hl 6 rfl) ?_
      obtain ⟨r91, e91, h⟩ := bnd h
      refine afI X (runS C G X q_X12_isOf k_1943 k_1942 (c_X12_isOf l E e91) rfl hl.1 rfl (Nat.le_of_ble_eq_true rfl) ⟨Nat.le_of_ble_eq_true rfl, Nat.le_of_ble_eq_true rfl⟩ ⟨Nat.le_of_ble_eq_true rfl, Nat.le_of_ble_eq_true rfl⟩ dX12_ask_91) (fun H locs X => ?_)
      refine lv_if_eq (tgt := 113) C.1 C.2.1 dX12_ask_94 (by decide) (fun c94 => ?_) (fun c94 => ?_)
      · replace h := ipos c94 h
        refine lv_iinc (v := (x7 + 1)) (lv' := [(7, .int (x7 + 1)), (0, .ref (gB E + 399)), (2, .int x2), (3, .int x3), (4, .int x4), (5, .int x5), (6, .int x6)]) C.1 C.2.1 dX12_ask_113 hl (k := 6) rfl rfl (by decide) rfl (fun ls hl => ?_)
        refine lv_goto (tgt := 77) C.1 C.2.1 dX12_ask_116 (by decide) ?_
        exact ih X (lv_sub hl [1, 2, 3, 4, 5, 6, 0] rfl) h
      · replace h := ineg c94 h
        refine lv_iload C.1 C.2.1 dX12_ask_97 (lv_at hl 5 rfl) ?_
        refine lv_aload_n C.1 C.2.1 dX12_ask_99 rfl (lv_at hl 0 rfl) ?_
        refine lv_iload_n C.1 C.2.1 dX12_ask_100 rfl (lv_at hl 1 rfl) ?_
        refine lv_iload C.1 C.2.1 dX12_ask_101 (lv_at hl 4 rfl) ?_
        refine lv_iload C.1 C.2.1 dX12_ask_103 (lv_at hl 6 rfl) ?_
        obtain ⟨r105, e105, h⟩ := bnd h
        refine afI X (runV C G X q_X12_asFar k_2157 kp_92 k_2155 (rcX12 G X kd_399) (c_X12_asFar l E e105) rfl hl.1 rfl (Nat.le_of_ble_eq_true rfl) ⟨Nat.le_of_ble_eq_true rfl, Nat.le_of_ble_eq_true rfl⟩ ⟨Nat.le_of_ble_eq_true rfl, Nat.le_of_ble_eq_true rfl⟩ dX12_ask_105) (fun H locs X => ?_)
        obtain ⟨r108, e108, h⟩ := bnd h
        refine afI X (runS C G X q_X12_greater k_1969 k_1968 (c_X12_greater l E e108) rfl hl.1 rfl (Nat.le_of_ble_eq_true rfl) ⟨Nat.le_of_ble_eq_true rfl, Nat.le_of_ble_eq_true rfl⟩ ⟨Nat.le_of_ble_eq_true rfl, Nat.le_of_ble_eq_true rfl⟩ dX12_ask_108) (fun H locs X => ?_)
        refine lv_istore (lv' := [(6, .int r108), (0, .ref (gB E + 399)), (2, .int x2), (3, .int x3), (4, .int x4), (5, .int x5), (7, .int x7)]) C.1 C.2.1 dX12_ask_111 hl (by decide) rfl (fun ls hl => ?_)
        refine lv_iinc (v := (x7 + 1)) (lv' := [(7, .int (x7 + 1)), (6, .int r108), (0, .ref (gB E + 399)), (2, .int x2), (3, .int x3), (4, .int x4), (5, .int x5)]) C.1 C.2.1 dX12_ask_113 hl (k := 6) rfl rfl (by decide) rfl (fun ls hl => ?_)
        refine lv_goto (tgt := 77) C.1 C.2.1 dX12_ask_116 (by decide) ?_
        exact ih X (lv_sub hl [2, 3, 4, 5, 6, 1, 0] rfl) h

set_option maxRecDepth 20000 in
theorem w_X12_ask_52 {r : (Int32 × Mem)} (C : Cx p s m args meth c cX12_ask (some .int) 8 RX12) (G : Gf E s) : ∀ (f : Nat) {x2 : Int32} {x3 : Int32} {x4 : Int32} {x5 : Int32} {σ : Mem} {ls : Array Slot} {H : Heap} {locs : List Loc}, Hx E σ s H locs → lv_has ls 8 [(0, .ref (gB E + 399)), (2, .int x2), (3, .int x3), (4, .int x4), (5, .int x5)] → X12_ask_52 f x2 x3 x4 x5 σ = some r → W p l e (RM 5) s m args below meth c H locs 0 0 (QI E below args s r.1 r.2) (F0 m 52 ls []) := by
  intro f
  induction f with
  | zero =>
    intro x2 x3 x4 x5 σ ls H locs X hl h
    rw [X12_ask_52] at h
    cases h
  | succ f ih =>
    intro x2 x3 x4 x5 σ ls H locs X hl h
    rw [X12_ask_52] at h
    refine lv_iload C.1 C.2.1 dX12_ask_52 (lv_at hl 4 rfl) ?_
    refine lv_aload_n C.1 C.2.1 dX12_ask_54 rfl (lv_at hl 0 rfl) ?_
    refine gfX12 C G X (k := 399) kd_399 1 (v := .ref (gB E + 400)) rfl rfl (by decide) k_1652 rfl dX12_ask_55 ?_
    refine lv_iconst (v := 3) C.1 C.2.1 dX12_ask_58 (by decide) ?_
    obtain ⟨r59, e59, h⟩ := bnd h
    refine ald C G X (k := 400) kd_400 (ag_s e59).1 dX12_ask_59 ?_
    rw [(ag_s e59).2]
    refine lv_icmp_ge (tgt := 142) C.1 C.2.1 dX12_ask_60 (by decide) (fun c60 => ?_) (fun c60 => ?_)
    · replace h := ipos c60 h
      refine lv_iload_n C.1 C.2.1 dX12_ask_142 rfl (lv_at hl 2 rfl) ?_
      rw [← Option.some.inj h]
      exact rtI C X dX12_ask_143
    · replace h := ineg c60 h
      refine lv_iload_n C.1 C.2.1 dX12_ask_63 rfl (lv_at hl 1 rfl) ?_
      obtain ⟨r64, e64, h⟩ := bnd h
      refine afI X (runS C G X q_X12_bits k_2109 k_2108 (c_X12_bits l E e64) rfl hl.1 rfl (Nat.le_of_ble_eq_true rfl) ⟨Nat.le_of_ble_eq_true rfl, Nat.le_of_ble_eq_true rfl⟩ ⟨Nat.le_of_ble_eq_true rfl, Nat.le_of_ble_eq_true rfl⟩ dX12_ask_64) (fun H locs X => ?_)
      refine lv_iconst (v := 1) C.1 C.2.1 dX12_ask_67 (by decide) ?_
      refine lv_icmp_le (tgt := 142) C.1 C.2.1 dX12_ask_68 (by decide) (fun c68 => ?_) (fun c68 => ?_)
      · replace h := ipos c68 h
        refine lv_iload_n C.1 C.2.1 dX12_ask_142 rfl (lv_at hl 2 rfl) ?_
        rw [← Option.some.inj h]
        exact rtI C X dX12_ask_143
      · replace h := ineg c68 h
        refine lv_iconst (v := 0) C.1 C.2.1 dX12_ask_71 (by decide) ?_
        refine lv_istore (lv' := [(6, .int (0 : Int32)), (0, .ref (gB E + 399)), (2, .int x2), (3, .int x3), (4, .int x4), (5, .int x5)]) C.1 C.2.1 dX12_ask_72 hl (by decide) rfl (fun ls hl => ?_)
        refine lv_iconst (v := 0) C.1 C.2.1 dX12_ask_74 (by decide) ?_
        refine lv_istore (lv' := [(7, .int (0 : Int32)), (6, .int (0 : Int32)), (0, .ref (gB E + 399)), (2, .int x2), (3, .int x3), (4, .int x4), (5, .int x5)]) C.1 C.2.1 dX12_ask_75 hl (by decide) rfl (fun ls hl => ?_)
        exact w_X12_ask_77 C G ih FU X (lv_sub hl [2, 3, 4, 5, 6, 1, 0] rfl) h

set_option maxRecDepth 20000 in
theorem w_X12_ask_24 {r : (Int32 × Mem)} {σ : Mem} {x1 : Int32} {y1 : Int32} {ls : Array Slot} {H : Heap} {locs : List Loc} (C : Cx p s m args meth c cX12_ask (some .int) 8 RX12) (G : Gf E s) (X : Hx E σ s H locs) (hl : lv_has ls 8 [(0, .ref (gB E + 399)), (1, .int x1)]) (h : X12_ask_24 x1 y1 σ = some r) : W p l e (RM 5) s m args below meth c H locs 0 0 (QI E below args s r.1 r.2) (F0 m 24 ls [.int y1, .ref (gB E + 399)]) := by
  rw [X12_ask_24] at h
  obtain ⟨σ24, e24, h⟩ := bnd h
  refine pfX12 C G X (k := 399) kd_399 0 (x := y1) (ty := .int) rfl rfl (Nat.le_of_ble_eq_true rfl) (by decide) k_1651 rfl rfl (by decide +kernel) rfl rfl dX12_ask_24 (fun H locs X => ?_)
  replace X := pu_x e24 X
  refine lv_aload_n C.1 C.2.1 dX12_ask_27 rfl (lv_at hl 0 rfl) ?_
  refine gfX12 C G X (k := 399) kd_399 0 (v := .int (σ24 399 0)) rfl rfl (by decide) k_1651 rfl dX12_ask_28 ?_
  refine lv_if_le (tgt := 36) C.1 C.2.1 dX12_ask_31 (by decide) (fun c31 => ?_) (fun c31 => ?_)
  · replace h := ipos c31 h
    refine lv_aload_n C.1 C.2.1 dX12_ask_36 rfl (lv_at hl 0 rfl) ?_
    refine lv_iload_n C.1 C.2.1 dX12_ask_37 rfl (lv_at hl 1 rfl) ?_
    obtain ⟨r38, e38, h⟩ := bnd h
    refine afI X (runV C G X q_X12_places k_2149 kp_91 k_2147 (rcX12 G X kd_399) (c_X12_places l E e38) rfl hl.1 rfl (Nat.le_of_ble_eq_true rfl) ⟨Nat.le_of_ble_eq_true rfl, Nat.le_of_ble_eq_true rfl⟩ ⟨Nat.le_of_ble_eq_true rfl, Nat.le_of_ble_eq_true rfl⟩ dX12_ask_38) (fun H locs X => ?_)
    refine lv_istore_n (lv' := [(2, .int r38), (0, .ref (gB E + 399)), (1, .int x1)]) C.1 C.2.1 dX12_ask_41 rfl hl (by decide) rfl (fun ls hl => ?_)
    refine lv_iconst (v := -1) C.1 C.2.1 dX12_ask_42 (by decide) ?_
    refine lv_istore_n (lv' := [(3, .int (-1 : Int32)), (2, .int r38), (0, .ref (gB E + 399)), (1, .int x1)]) C.1 C.2.1 dX12_ask_43 rfl hl (by decide) rfl (fun ls hl => ?_)
    refine lv_ldcw C.1 C.2.1 C.hown (C.ts _ k_1987) dX12_ask_44 ?_
    refine lv_istore (lv' := [(4, .int (2000000000 : Int32)), (3, .int (-1 : Int32)), (2, .int r38), (0, .ref (gB E + 399)), (1, .int x1)]) C.1 C.2.1 dX12_ask_47 hl (by decide) rfl (fun ls hl => ?_)
    refine lv_iconst (v := 0) C.1 C.2.1 dX12_ask_49 (by decide) ?_
    refine lv_istore (lv' := [(5, .int (0 : Int32)), (4, .int (2000000000 : Int32)), (3, .int (-1 : Int32)), (2, .int r38), (0, .ref (gB E + 399)), (1, .int x1)]) C.1 C.2.1 dX12_ask_50 hl (by decide) rfl (fun ls hl => ?_)
    exact w_X12_ask_52 C G FU X (lv_sub hl [4, 3, 2, 1, 0] rfl) h
  · replace h := ineg c31 h
    refine lv_iconst (v := 0) C.1 C.2.1 dX12_ask_34 (by decide) ?_
    rw [← Option.some.inj h]
    exact rtI C X dX12_ask_35

set_option maxRecDepth 20000 in
theorem w_X12_ask {r : (Int32 × Mem)} {σ : Mem} {ls : Array Slot} {H : Heap} {locs : List Loc} (C : Cx p s m args meth c cX12_ask (some .int) 8 RX12) (G : Gf E s) (X : Hx E σ s H locs) (hl : lv_has ls 8 [(0, .ref (gB E + 399))]) (h : X12_ask σ = some r) : W p l e (RM 5) s m args below meth c H locs 0 0 (QI E below args s r.1 r.2) (F0 m 0 ls []) := by
  rw [X12_ask] at h
  refine lv_aload_n C.1 C.2.1 dX12_ask_0 rfl (lv_at hl 0 rfl) ?_
  refine gfX12 C G X (k := 399) kd_399 8 (v := .int (σ 399 8)) rfl rfl (by decide) k_1659 rfl dX12_ask_1 ?_
  refine lv_istore_n (lv' := [(1, .int (σ 399 8)), (0, .ref (gB E + 399))]) C.1 C.2.1 dX12_ask_4 rfl hl (by decide) rfl (fun ls hl => ?_)
  refine lv_aload_n C.1 C.2.1 dX12_ask_5 rfl (lv_at hl 1 rfl) ?_
  refine lv_iconst (v := 0) C.1 C.2.1 dX12_ask_6 (by decide) ?_
  obtain ⟨σ7, e7, h⟩ := bnd h
  refine pfX12 C G X (k := 399) kd_399 8 (x := (0 : Int32)) (ty := .int) rfl rfl (Nat.le_of_ble_eq_true rfl) (by decide) k_1659 rfl rfl (by decide +kernel) rfl rfl dX12_ask_7 (fun H locs X => ?_)
  replace X := pu_x e7 X
  refine lv_aload_n C.1 C.2.1 dX12_ask_10 rfl (lv_at hl 1 rfl) ?_
  refine lv_aload_n C.1 C.2.1 dX12_ask_11 rfl (lv_at hl 1 rfl) ?_
  refine lv_iload_n C.1 C.2.1 dX12_ask_12 rfl (lv_at hl 0 rfl) ?_
  obtain ⟨r13, e13, h⟩ := bnd h
  refine afI X (runV C G X q_X12_areRows k_2145 kp_90 k_2143 (rcX12 G X kd_399) (c_X12_areRows l E e13) rfl hl.1 rfl (Nat.le_of_ble_eq_true rfl) ⟨Nat.le_of_ble_eq_true rfl, Nat.le_of_ble_eq_true rfl⟩ ⟨Nat.le_of_ble_eq_true rfl, Nat.le_of_ble_eq_true rfl⟩ dX12_ask_13) (fun H locs X => ?_)
  refine lv_if_ne (tgt := 23) C.1 C.2.1 dX12_ask_16 (by decide) (fun c16 => ?_) (fun c16 => ?_)
  · replace h := ineg c16 h
    refine lv_iconst (v := 0) C.1 C.2.1 dX12_ask_23 (by decide) ?_
    exact w_X12_ask_24 C G X (lv_sub hl [1, 0] rfl) h
  · replace h := ipos c16 h
    refine lv_iconst (v := 1) C.1 C.2.1 dX12_ask_19 (by decide) ?_
    refine lv_goto (tgt := 24) C.1 C.2.1 dX12_ask_20 (by decide) ?_
    exact w_X12_ask_24 C G X (lv_sub hl [1, 0] rfl) h

theorem c_X12_ask (l : Launch) (E : GE) {σ : Mem} {r : (Int32 × Mem)} (h : X12_ask σ = some r) : CtI l E yX12_ask cX12_ask 8 .int 5 [.ref (gB E + 399)] σ r.1 r.2 := by
  refine Met.ofW (cc := cX12_ask) (maxL := 8) (ret := (some .int)) (by decide) rfl ?_
  intro p e s m args below meth c s₁ B hml hv
  obtain ⟨rfl, G, X⟩ := start hv
  have C := cxof B hml
  have hl := lv_entry [.ref (gB E + 399)] (n := 8) (Nat.le_of_ble_eq_true rfl)
  rw [lg_entry_eq]
  generalize (lg_sl [.ref (gB E + 399)] ++ List.replicate (8 - (lg_sl [.ref (gB E + 399)]).length) Slot.unset).toArray = ls at hl ⊢
  exact w_X12_ask C G X hl h

set_option maxRecDepth 20000 in
theorem w_X12_pointsTo {r : (Int32 × Mem)} {σ : Mem} {x1 : Int32} {ls : Array Slot} {H : Heap} {locs : List Loc} (C : Cx p s m args meth c cX12_pointsTo (some .int) 3 RX12) (G : Gf E s) (X : Hx E σ s H locs) (hl : lv_has ls 3 [(0, .ref (gB E + 399)), (1, .int x1)]) (h : X12_pointsTo x1 σ = some r) : W p l e (RM 207) s m args below meth c H locs 0 0 (QI E below args s r.1 r.2) (F0 m 0 ls []) := by
  rw [X12_pointsTo] at h
  refine lv_aload_n C.1 C.2.1 dX12_pointsTo_0 rfl (lv_at hl 0 rfl) ?_
  refine lv_iload_n C.1 C.2.1 dX12_pointsTo_1 rfl (lv_at hl 1 rfl) ?_
  obtain ⟨r2, σ2, e2, h⟩ := bnd2 h
  refine afI (r0 := r2) (σ' := σ2) X (runV C G X q_X12_turnOf k_1985 kp_74 k_1983 (rcX12 G X kd_399) (c_X12_turnOf l E e2) rfl hl.1 rfl (Nat.le_of_ble_eq_true rfl) ⟨Nat.le_of_ble_eq_true rfl, Nat.le_of_ble_eq_true rfl⟩ ⟨Nat.le_of_ble_eq_true rfl, Nat.le_of_ble_eq_true rfl⟩ dX12_pointsTo_2) (fun H locs X => ?_)
  refine lv_istore_n (lv' := [(2, .int r2), (0, .ref (gB E + 399)), (1, .int x1)]) C.1 C.2.1 dX12_pointsTo_5 rfl hl (by decide) rfl (fun ls hl => ?_)
  refine lv_iload_n C.1 C.2.1 dX12_pointsTo_6 rfl (lv_at hl 0 rfl) ?_
  refine lv_iconst (v := -1) C.1 C.2.1 dX12_pointsTo_7 (by decide) ?_
  refine lv_icmp_ne (tgt := 15) C.1 C.2.1 dX12_pointsTo_8 (by decide) (fun c8 => ?_) (fun c8 => ?_)
  · replace h := ineg c8 h
    refine lv_aload_n C.1 C.2.1 dX12_pointsTo_15 rfl (lv_at hl 1 rfl) ?_
    refine lv_iload_n C.1 C.2.1 dX12_pointsTo_16 rfl (lv_at hl 0 rfl) ?_
    refine lv_iconst (v := 2) C.1 C.2.1 dX12_pointsTo_17 (by decide) ?_
    obtain ⟨r18, e18, h⟩ := bnd h
    refine afI X (runV C G X q_X12_of k_1855 kp_49 k_1853 (rcX12 G X kd_399) (c_X12_of l E e18) rfl hl.1 rfl (Nat.le_of_ble_eq_true rfl) ⟨Nat.le_of_ble_eq_true rfl, Nat.le_of_ble_eq_true rfl⟩ ⟨Nat.le_of_ble_eq_true rfl, Nat.le_of_ble_eq_true rfl⟩ dX12_pointsTo_18) (fun H locs X => ?_)
    rw [← Option.some.inj h]
    exact rtI C X dX12_pointsTo_21
  · replace h := ipos c8 h
    refine lv_iconst (v := -1) C.1 C.2.1 dX12_pointsTo_11 (by decide) ?_
    refine lv_goto (tgt := 21) C.1 C.2.1 dX12_pointsTo_12 (by decide) ?_
    rw [← Option.some.inj h]
    exact rtI C X dX12_pointsTo_21

theorem c_X12_pointsTo (l : Launch) (E : GE) {σ : Mem} {x1 : Int32} {r : (Int32 × Mem)} (h : X12_pointsTo x1 σ = some r) : CtI l E yX12_pointsTo cX12_pointsTo 3 .int 207 [.ref (gB E + 399), .int x1] σ r.1 r.2 := by
  refine Met.ofW (cc := cX12_pointsTo) (maxL := 3) (ret := (some .int)) (by decide) rfl ?_
  intro p e s m args below meth c s₁ B hml hv
  obtain ⟨rfl, G, X⟩ := start hv
  have C := cxof B hml
  have hl := lv_entry [.ref (gB E + 399), .int x1] (n := 3) (Nat.le_of_ble_eq_true rfl)
  rw [lg_entry_eq]
  generalize (lg_sl [.ref (gB E + 399), .int x1] ++ List.replicate (3 - (lg_sl [.ref (gB E + 399), .int x1]).length) Slot.unset).toArray = ls at hl ⊢
  exact w_X12_pointsTo C G X hl h

set_option maxRecDepth 20000 in
theorem w_X12_ring_62 {r : (Int32 × Mem)} {σ : Mem} {x1 : Int32} {x2 : Int32} {ls : Array Slot} {H : Heap} {locs : List Loc} (C : Cx p s m args meth c cX12_ring (some .boolean) 4 RX12) (G : Gf E s) (X : Hx E σ s H locs) (hl : lv_has ls 4 [(1, .int x1), (2, .int x2)]) (h : X12_ring_62 x1 x2 σ = some r) : W p l e (RM 208) s m args below meth c H locs 0 0 (QI E below args s r.1 r.2) (F0 m 62 ls []) := by
  rw [X12_ring_62] at h
  refine lv_iload_n C.1 C.2.1 dX12_ring_62 rfl (lv_at hl 1 rfl) ?_
  refine lv_iload_n C.1 C.2.1 dX12_ring_63 rfl (lv_at hl 0 rfl) ?_
  refine lv_icmp_ne (tgt := 71) C.1 C.2.1 dX12_ring_64 (by decide) (fun c64 => ?_) (fun c64 => ?_)
  · replace h := ineg c64 h
    refine lv_iconst (v := 0) C.1 C.2.1 dX12_ring_71 (by decide) ?_
    obtain ⟨u72, z72, h⟩ := bnd h
    rw [← Option.some.inj h]
    exact rtZ C X (gb_s z72) dX12_ring_72
  · replace h := ipos c64 h
    refine lv_iconst (v := 1) C.1 C.2.1 dX12_ring_67 (by decide) ?_
    refine lv_goto (tgt := 72) C.1 C.2.1 dX12_ring_68 (by decide) ?_
    obtain ⟨u72, z72, h⟩ := bnd h
    rw [← Option.some.inj h]
    exact rtZ C X (gb_s z72) dX12_ring_72

set_option maxRecDepth 20000 in
theorem w_X12_ring_34 {r : (Int32 × Mem)} (C : Cx p s m args meth c cX12_ring (some .boolean) 4 RX12) (G : Gf E s) : ∀ (f : Nat) {x1 : Int32} {x2 : Int32} {x3 : Int32} {σ : Mem} {ls : Array Slot} {H : Heap} {locs : List Loc}, Hx E σ s H locs → lv_has ls 4 [(0, .ref (gB E + 399)), (1, .int x1), (2, .int x2), (3, .int x3)] → X12_ring_34 f x1 x2 x3 σ = some r → W p l e (RM 208) s m args below meth c H locs 0 0 (QI E below args s r.1 r.2) (F0 m 34 ls []) := by
  intro f
  induction f with
  | zero =>
    intro x1 x2 x3 σ ls H locs X hl h
    rw [X12_ring_34] at h
    cases h
  | succ f ih =>
    intro x1 x2 x3 σ ls H locs X hl h
    rw [X12_ring_34] at h
    refine lv_iload_n C.1 C.2.1 dX12_ring_34 rfl (lv_at hl 3 rfl) ?_
    refine lv_bipush (v := 6) C.1 C.2.1 dX12_ring_35 (by decide) ?_
    refine lv_icmp_ge (tgt := 62) C.1 C.2.1 dX12_ring_37 (by decide) (fun c37 => ?_) (fun c37 => ?_)
    · replace h := ipos c37 h
      exact w_X12_ring_62 C G X (lv_sub hl [1, 2] rfl) h
    · replace h := ineg c37 h
      refine lv_iload_n C.1 C.2.1 dX12_ring_40 rfl (lv_at hl 2 rfl) ?_
      refine lv_iconst (v := -1) C.1 C.2.1 dX12_ring_41 (by decide) ?_
      refine lv_icmp_eq (tgt := 62) C.1 C.2.1 dX12_ring_42 (by decide) (fun c42 => ?_) (fun c42 => ?_)
      · replace h := ipos c42 h
        exact w_X12_ring_62 C G X (lv_sub hl [1, 2] rfl) h
      · replace h := ineg c42 h
        refine lv_iload_n C.1 C.2.1 dX12_ring_45 rfl (lv_at hl 2 rfl) ?_
        refine lv_iload_n C.1 C.2.1 dX12_ring_46 rfl (lv_at hl 1 rfl) ?_
        refine lv_icmp_eq (tgt := 62) C.1 C.2.1 dX12_ring_47 (by decide) (fun c47 => ?_) (fun c47 => ?_)
        · replace h := ipos c47 h
          exact w_X12_ring_62 C G X (lv_sub hl [1, 2] rfl) h
        · replace h := ineg c47 h
          refine lv_aload_n C.1 C.2.1 dX12_ring_50 rfl (lv_at hl 0 rfl) ?_
          refine lv_iload_n C.1 C.2.1 dX12_ring_51 rfl (lv_at hl 2 rfl) ?_
          obtain ⟨r52, σ52, e52, h⟩ := bnd2 h
          refine afI (r0 := r52) (σ' := σ52) X (runV C G X q_X12_pointsTo k_2165 kp_93 k_2163 (rcX12 G X kd_399) (c_X12_pointsTo l E e52) rfl hl.1 rfl (Nat.le_of_ble_eq_true rfl) ⟨Nat.le_of_ble_eq_true rfl, Nat.le_of_ble_eq_true rfl⟩ ⟨Nat.le_of_ble_eq_true rfl, Nat.le_of_ble_eq_true rfl⟩ dX12_ring_52) (fun H locs X => ?_)
          refine lv_istore_n (lv' := [(2, .int r52), (0, .ref (gB E + 399)), (1, .int x1), (3, .int x3)]) C.1 C.2.1 dX12_ring_55 rfl hl (by decide) rfl (fun ls hl => ?_)
          refine lv_iinc (v := (x3 + 1)) (lv' := [(3, .int (x3 + 1)), (2, .int r52), (0, .ref (gB E + 399)), (1, .int x1)]) C.1 C.2.1 dX12_ring_56 hl (k := 3) rfl rfl (by decide) rfl (fun ls hl => ?_)
          refine lv_goto (tgt := 34) C.1 C.2.1 dX12_ring_59 (by decide) ?_
          exact ih X (lv_sub hl [2, 3, 1, 0] rfl) h

set_option maxRecDepth 20000 in
theorem w_X12_ring_14 {r : (Int32 × Mem)} {σ : Mem} {x1 : Int32} {y1 : Int32} {ls : Array Slot} {H : Heap} {locs : List Loc} (C : Cx p s m args meth c cX12_ring (some .boolean) 4 RX12) (G : Gf E s) (X : Hx E σ s H locs) (hl : lv_has ls 4 [(0, .ref (gB E + 399)), (1, .int x1)]) (h : X12_ring_14 x1 y1 σ = some r) : W p l e (RM 208) s m args below meth c H locs 0 0 (QI E below args s r.1 r.2) (F0 m 14 ls [.int y1, .ref (gB E + 399)]) := by
  rw [X12_ring_14] at h
  obtain ⟨σ14, e14, h⟩ := bnd h
  refine pfX12 C G X (k := 399) kd_399 0 (x := y1) (ty := .int) rfl rfl (Nat.le_of_ble_eq_true rfl) (by decide) k_1651 rfl rfl (by decide +kernel) rfl rfl dX12_ring_14 (fun H locs X => ?_)
  replace X := pu_x e14 X
  refine lv_aload_n C.1 C.2.1 dX12_ring_17 rfl (lv_at hl 0 rfl) ?_
  refine gfX12 C G X (k := 399) kd_399 0 (v := .int (σ14 399 0)) rfl rfl (by decide) k_1651 rfl dX12_ring_18 ?_
  refine lv_if_le (tgt := 26) C.1 C.2.1 dX12_ring_21 (by decide) (fun c21 => ?_) (fun c21 => ?_)
  · replace h := ipos c21 h
    refine lv_aload_n C.1 C.2.1 dX12_ring_26 rfl (lv_at hl 0 rfl) ?_
    refine lv_iload_n C.1 C.2.1 dX12_ring_27 rfl (lv_at hl 1 rfl) ?_
    obtain ⟨r28, σ28, e28, h⟩ := bnd2 h
    refine afI (r0 := r28) (σ' := σ28) X (runV C G X q_X12_pointsTo k_2165 kp_93 k_2163 (rcX12 G X kd_399) (c_X12_pointsTo l E e28) rfl hl.1 rfl (Nat.le_of_ble_eq_true rfl) ⟨Nat.le_of_ble_eq_true rfl, Nat.le_of_ble_eq_true rfl⟩ ⟨Nat.le_of_ble_eq_true rfl, Nat.le_of_ble_eq_true rfl⟩ dX12_ring_28) (fun H locs X => ?_)
    refine lv_istore_n (lv' := [(2, .int r28), (0, .ref (gB E + 399)), (1, .int x1)]) C.1 C.2.1 dX12_ring_31 rfl hl (by decide) rfl (fun ls hl => ?_)
    refine lv_iconst (v := 0) C.1 C.2.1 dX12_ring_32 (by decide) ?_
    refine lv_istore_n (lv' := [(3, .int (0 : Int32)), (2, .int r28), (0, .ref (gB E + 399)), (1, .int x1)]) C.1 C.2.1 dX12_ring_33 rfl hl (by decide) rfl (fun ls hl => ?_)
    exact w_X12_ring_34 C G FU X (lv_sub hl [2, 3, 1, 0] rfl) h
  · replace h := ineg c21 h
    refine lv_iconst (v := 0) C.1 C.2.1 dX12_ring_24 (by decide) ?_
    obtain ⟨u25, z25, h⟩ := bnd h
    rw [← Option.some.inj h]
    exact rtZ C X (gb_s z25) dX12_ring_25

set_option maxRecDepth 20000 in
theorem w_X12_ring {r : (Int32 × Mem)} {σ : Mem} {x1 : Int32} {ls : Array Slot} {H : Heap} {locs : List Loc} (C : Cx p s m args meth c cX12_ring (some .boolean) 4 RX12) (G : Gf E s) (X : Hx E σ s H locs) (hl : lv_has ls 4 [(0, .ref (gB E + 399)), (1, .int x1)]) (h : X12_ring x1 σ = some r) : W p l e (RM 208) s m args below meth c H locs 0 0 (QI E below args s r.1 r.2) (F0 m 0 ls []) := by
  rw [X12_ring] at h
  refine lv_aload_n C.1 C.2.1 dX12_ring_0 rfl (lv_at hl 0 rfl) ?_
  refine lv_aload_n C.1 C.2.1 dX12_ring_1 rfl (lv_at hl 0 rfl) ?_
  refine lv_iload_n C.1 C.2.1 dX12_ring_2 rfl (lv_at hl 1 rfl) ?_
  obtain ⟨r3, e3, h⟩ := bnd h
  refine afI X (runV C G X q_X12_isWalker k_1977 kp_72 k_1975 (rcX12 G X kd_399) (c_X12_isWalker l E e3) rfl hl.1 rfl (Nat.le_of_ble_eq_true rfl) ⟨Nat.le_of_ble_eq_true rfl, Nat.le_of_ble_eq_true rfl⟩ ⟨Nat.le_of_ble_eq_true rfl, Nat.le_of_ble_eq_true rfl⟩ dX12_ring_3) (fun H locs X => ?_)
  refine lv_if_ne (tgt := 13) C.1 C.2.1 dX12_ring_6 (by decide) (fun c6 => ?_) (fun c6 => ?_)
  · replace h := ineg c6 h
    refine lv_iconst (v := 0) C.1 C.2.1 dX12_ring_13 (by decide) ?_
    exact w_X12_ring_14 C G X (lv_sub hl [0, 1] rfl) h
  · replace h := ipos c6 h
    refine lv_iconst (v := 1) C.1 C.2.1 dX12_ring_9 (by decide) ?_
    refine lv_goto (tgt := 14) C.1 C.2.1 dX12_ring_10 (by decide) ?_
    exact w_X12_ring_14 C G X (lv_sub hl [0, 1] rfl) h

theorem c_X12_ring (l : Launch) (E : GE) {σ : Mem} {x1 : Int32} {r : (Int32 × Mem)} (h : X12_ring x1 σ = some r) : CtI l E yX12_ring cX12_ring 4 .boolean 208 [.ref (gB E + 399), .int x1] σ r.1 r.2 := by
  refine Met.ofW (cc := cX12_ring) (maxL := 4) (ret := (some .boolean)) (by decide) rfl ?_
  intro p e s m args below meth c s₁ B hml hv
  obtain ⟨rfl, G, X⟩ := start hv
  have C := cxof B hml
  have hl := lv_entry [.ref (gB E + 399), .int x1] (n := 4) (Nat.le_of_ble_eq_true rfl)
  rw [lg_entry_eq]
  generalize (lg_sl [.ref (gB E + 399), .int x1] ++ List.replicate (4 - (lg_sl [.ref (gB E + 399), .int x1]).length) Slot.unset).toArray = ls at hl ⊢
  exact w_X12_ring C G X hl h

set_option maxRecDepth 20000 in
theorem w_X12_both {r : Int32} {σ : Mem} {x1 : Int32} {x2 : Int32} {ls : Array Slot} {H : Heap} {locs : List Loc} (C : Cx p s m args meth c cX12_both (some .int) 3 RX12) (G : Gf E s) (X : Hx E σ s H locs) (hl : lv_has ls 3 [(0, .ref (gB E + 399)), (1, .int x1), (2, .int x2)]) (h : X12_both σ x1 x2 = some r) : W p l e (RM 2) s m args below meth c H locs 0 0 (QI E below args s r σ) (F0 m 0 ls []) := by
  rw [X12_both] at h
  refine lv_aload_n C.1 C.2.1 dX12_both_0 rfl (lv_at hl 0 rfl) ?_
  refine lv_iload_n C.1 C.2.1 dX12_both_1 rfl (lv_at hl 1 rfl) ?_
  refine lv_iload_n C.1 C.2.1 dX12_both_2 rfl (lv_at hl 2 rfl) ?_
  obtain ⟨r3, e3, h⟩ := bnd h
  refine afI X (runV C G X q_X12_liking k_1907 kp_58 k_1905 (rcX12 G X kd_399) (c_X12_liking l E e3) rfl hl.1 rfl (Nat.le_of_ble_eq_true rfl) ⟨Nat.le_of_ble_eq_true rfl, Nat.le_of_ble_eq_true rfl⟩ ⟨Nat.le_of_ble_eq_true rfl, Nat.le_of_ble_eq_true rfl⟩ dX12_both_3) (fun H locs X => ?_)
  refine lv_aload_n C.1 C.2.1 dX12_both_6 rfl (lv_at hl 0 rfl) ?_
  refine lv_iload_n C.1 C.2.1 dX12_both_7 rfl (lv_at hl 2 rfl) ?_
  refine lv_iload_n C.1 C.2.1 dX12_both_8 rfl (lv_at hl 1 rfl) ?_
  obtain ⟨r9, e9, h⟩ := bnd h
  refine afI X (runV C G X q_X12_liking k_1907 kp_58 k_1905 (rcX12 G X kd_399) (c_X12_liking l E e9) rfl hl.1 rfl (Nat.le_of_ble_eq_true rfl) ⟨Nat.le_of_ble_eq_true rfl, Nat.le_of_ble_eq_true rfl⟩ ⟨Nat.le_of_ble_eq_true rfl, Nat.le_of_ble_eq_true rfl⟩ dX12_both_9) (fun H locs X => ?_)
  refine lv_iadd C.1 C.2.1 dX12_both_12 ?_
  rw [← Option.some.inj h]
  exact rtI C X dX12_both_13

theorem c_X12_both (l : Launch) (E : GE) {σ : Mem} {x1 : Int32} {x2 : Int32} {r : Int32} (h : X12_both σ x1 x2 = some r) : CtI l E yX12_both cX12_both 3 .int 2 [.ref (gB E + 399), .int x1, .int x2] σ r σ := by
  refine Met.ofW (cc := cX12_both) (maxL := 3) (ret := (some .int)) (by decide) rfl ?_
  intro p e s m args below meth c s₁ B hml hv
  obtain ⟨rfl, G, X⟩ := start hv
  have C := cxof B hml
  have hl := lv_entry [.ref (gB E + 399), .int x1, .int x2] (n := 3) (Nat.le_of_ble_eq_true rfl)
  rw [lg_entry_eq]
  generalize (lg_sl [.ref (gB E + 399), .int x1, .int x2] ++ List.replicate (3 - (lg_sl [.ref (gB E + 399), .int x1, .int x2]).length) Slot.unset).toArray = ls at hl ⊢
  exact w_X12_both C G X hl h

set_option maxRecDepth 20000 in
theorem w_X12_sides_86 {r : (Int32 × Mem)} {σ : Mem} {rc11 : Int32 → Int32 → Int32 → Mem → Option (Int32 × Mem)} {rc29 : Int32 → Int32 → Int32 → Int32 → Int32 → Mem → Option (Int32 × Mem)} {rc46 : Int32 → Int32 → Int32 → Int32 → Int32 → Int32 → Mem → Option (Int32 × Mem)} {x1 : Int32} {x2 : Int32} {x3 : Int32} {x5 : Int32} {x6 : Int32} {y0 : Int32} {y1 : Int32} {ls : Array Slot} {H : Heap} {locs : List Loc} (C : Cx p s m args meth c cX12_sides (some .int) 7 RX12) (G : Gf E s) (hr11 : ∀ {x1 : Int32} {x2 : Int32} {x3 : Int32} {σ : Mem} {ls : Array Slot} {H : Heap} {locs : List Loc}, Hx E σ s H locs → lv_has ls 7 [(0, .ref (gB E + 399)), (1, .int x1), (2, .int x2), (3, .int x3)] → rc11 x1 x2 x3 σ = some r → W p l e (RM 3) s m args below meth c H locs 0 0 (QI E below args s r.1 r.2) (F0 m 11 ls [])) (hr29 : ∀ {x1 : Int32} {x2 : Int32} {x3 : Int32} {x4 : Int32} {x5 : Int32} {σ : Mem} {ls : Array Slot} {H : Heap} {locs : List Loc}, Hx E σ s H locs → lv_has ls 7 [(0, .ref (gB E + 399)), (1, .int x1), (2, .int x2), (3, .int x3), (4, .int x4), (5, .int x5)] → rc29 x1 x2 x3 x4 x5 σ = some r → W p l e (RM 3) s m args below meth c H locs 0 0 (QI E below args s r.1 r.2) (F0 m 29 ls [])) (hr46 : ∀ {x1 : Int32} {x2 : Int32} {x3 : Int32} {x4 : Int32} {x5 : Int32} {x6 : Int32} {σ : Mem} {ls : Array Slot} {H : Heap} {locs : List Loc}, Hx E σ s H locs → lv_has ls 7 [(0, .ref (gB E + 399)), (1, .int x1), (2, .int x2), (3, .int x3), (4, .int x4), (5, .int x5), (6, .int x6)] → rc46 x1 x2 x3 x4 x5 x6 σ = some r → W p l e (RM 3) s m args below meth c H locs 0 0 (QI E below args s r.1 r.2) (F0 m 46 ls [])) (X : Hx E σ s H locs) (hl : lv_has ls 7 [(0, .ref (gB E + 399)), (1, .int x1), (2, .int x2), (3, .int x3), (5, .int x5), (6, .int x6)]) (h : X12_sides_86 rc11 rc29 rc46 x1 x2 x3 x5 x6 y0 y1 σ = some r) : W p l e (RM 3) s m args below meth c H locs 0 0 (QI E below args s r.1 r.2) (F0 m 86 ls [.int y1, .int y0]) := by
  rw [X12_sides_86] at h
  refine lv_iadd C.1 C.2.1 dX12_sides_86 ?_
  refine lv_istore (lv' := [(4, .int (y0 + y1)), (0, .ref (gB E + 399)), (1, .int x1), (2, .int x2), (3, .int x3), (5, .int x5), (6, .int x6)]) C.1 C.2.1 dX12_sides_87 hl (by decide) rfl (fun ls hl => ?_)
  refine lv_iinc (v := (x6 + 1)) (lv' := [(6, .int (x6 + 1)), (4, .int (y0 + y1)), (0, .ref (gB E + 399)), (1, .int x1), (2, .int x2), (3, .int x3), (5, .int x5)]) C.1 C.2.1 dX12_sides_89 hl (k := 6) rfl rfl (by decide) rfl (fun ls hl => ?_)
  refine lv_goto (tgt := 46) C.1 C.2.1 dX12_sides_92 (by decide) ?_
  exact hr46 X (lv_sub hl [2, 3, 4, 5, 1, 6, 0] rfl) h

set_option maxRecDepth 20000 in
theorem w_X12_sides_46 {r : (Int32 × Mem)} {rc11 : Int32 → Int32 → Int32 → Mem → Option (Int32 × Mem)} {rc29 : Int32 → Int32 → Int32 → Int32 → Int32 → Mem → Option (Int32 × Mem)} (C : Cx p s m args meth c cX12_sides (some .int) 7 RX12) (G : Gf E s) (hr11 : ∀ {x1 : Int32} {x2 : Int32} {x3 : Int32} {σ : Mem} {ls : Array Slot} {H : Heap} {locs : List Loc}, Hx E σ s H locs → lv_has ls 7 [(0, .ref (gB E + 399)), (1, .int x1), (2, .int x2), (3, .int x3)] → rc11 x1 x2 x3 σ = some r → W p l e (RM 3) s m args below meth c H locs 0 0 (QI E below args s r.1 r.2) (F0 m 11 ls [])) (hr29 : ∀ {x1 : Int32} {x2 : Int32} {x3 : Int32} {x4 : Int32} {x5 : Int32} {σ : Mem} {ls : Array Slot} {H : Heap} {locs : List Loc}, Hx E σ s H locs → lv_has ls 7 [(0, .ref (gB E + 399)), (1, .int x1), (2, .int x2), (3, .int x3), (4, .int x4), (5, .int x5)] → rc29 x1 x2 x3 x4 x5 σ = some r → W p l e (RM 3) s m args below meth c H locs 0 0 (QI E below args s r.1 r.2) (F0 m 29 ls [])) : ∀ (f : Nat) {x1 : Int32} {x2 : Int32} {x3 : Int32} {x4 : Int32} {x5 : Int32} {x6 : Int32} {σ : Mem} {ls : Array Slot} {H : Heap} {locs : List Loc}, Hx E σ s H locs → lv_has ls 7 [(0, .ref (gB E + 399)), (1, .int x1), (2, .int x2), (3, .int x3), (4, .int x4), (5, .int x5), (6, .int x6)] → X12_sides_46 rc11 rc29 f x1 x2 x3 x4 x5 x6 σ = some r → W p l e (RM 3) s m args below meth c H locs 0 0 (QI E below args s r.1 r.2) (F0 m 46 ls []) := by
  intro f
  induction f with
  | zero =>
    intro x1 x2 x3 x4 x5 x6 σ ls H locs X hl h
    rw [X12_sides_46] at h
    cases h
  | succ f ih =>
    intro x1 x2 x3 x4 x5 x6 σ ls H locs X hl h
    rw [X12_sides_46] at h
    refine lv_iload C.1 C.2.1 dX12_sides_46 (lv_at hl 6 rfl) ?_
    refine lv_aload_n C.1 C.2.1 dX12_sides_48 rfl (lv_at hl 0 rfl) ?_
    refine gfX12 C G X (k := 399) kd_399 1 (v := .ref (gB E + 400)) rfl rfl (by decide) k_1652 rfl dX12_sides_49 ?_
    refine lv_iconst (v := 4) C.1 C.2.1 dX12_sides_52 (by decide) ?_
    obtain ⟨r53, e53, h⟩ := bnd h
    refine ald C G X (k := 400) kd_400 (ag_s e53).1 dX12_sides_53 ?_
    rw [(ag_s e53).2]
    refine lv_icmp_ge (tgt := 95) C.1 C.2.1 dX12_sides_54 (by decide) (fun c54 => ?_) (fun c54 => ?_)
    · replace h := ipos c54 h
      refine lv_iinc (v := (x5 + 1)) (lv' := [(5, .int (x5 + 1)), (0, .ref (gB E + 399)), (1, .int x1), (2, .int x2), (3, .int x3), (4, .int x4), (6, .int x6)]) C.1 C.2.1 dX12_sides_95 hl (k := 5) rfl rfl (by decide) rfl (fun ls hl => ?_)
      refine lv_goto (tgt := 29) C.1 C.2.1 dX12_sides_98 (by decide) ?_
      exact hr29 X (lv_sub hl [1, 2, 3, 4, 5, 0] rfl) h
    · replace h := ineg c54 h
      refine lv_iload C.1 C.2.1 dX12_sides_57 (lv_at hl 4 rfl) ?_
      refine lv_iload_n C.1 C.2.1 dX12_sides_59 rfl (lv_at hl 3 rfl) ?_
      refine lv_iload C.1 C.2.1 dX12_sides_60 (lv_at hl 5 rfl) ?_
      obtain ⟨r62, e62, h⟩ := bnd h
      refine afI X (runS C G X q_X12_isOf k_1943 k_1942 (c_X12_isOf l E e62) rfl hl.1 rfl (Nat.le_of_ble_eq_true rfl) ⟨Nat.le_of_ble_eq_true rfl, Nat.le_of_ble_eq_true rfl⟩ ⟨Nat.le_of_ble_eq_true rfl, Nat.le_of_ble_eq_true rfl⟩ dX12_sides_62) (fun H locs X => ?_)
      refine lv_iload_n C.1 C.2.1 dX12_sides_65 rfl (lv_at hl 3 rfl) ?_
      refine lv_iload C.1 C.2.1 dX12_sides_66 (lv_at hl 6 rfl) ?_
      obtain ⟨r68, e68, h⟩ := bnd h
      refine afI X (runS C G X q_X12_isOf k_1943 k_1942 (c_X12_isOf l E e68) rfl hl.1 rfl (Nat.le_of_ble_eq_true rfl) ⟨Nat.le_of_ble_eq_true rfl, Nat.le_of_ble_eq_true rfl⟩ ⟨Nat.le_of_ble_eq_true rfl, Nat.le_of_ble_eq_true rfl⟩ dX12_sides_68) (fun H locs X => ?_)
      refine lv_icmp_ne (tgt := 85) C.1 C.2.1 dX12_sides_71 (by decide) (fun c71 => ?_) (fun c71 => ?_)
      · replace h := ineg c71 h
        refine lv_iconst (v := 0) C.1 C.2.1 dX12_sides_85 (by decide) ?_
        exact w_X12_sides_86 C G hr11 hr29 ih X (lv_sub hl [0, 1, 2, 3, 5, 6] rfl) h
      · replace h := ipos c71 h
        refine lv_aload_n C.1 C.2.1 dX12_sides_74 rfl (lv_at hl 0 rfl) ?_
        refine lv_iload C.1 C.2.1 dX12_sides_75 (lv_at hl 5 rfl) ?_
        refine lv_iload C.1 C.2.1 dX12_sides_77 (lv_at hl 6 rfl) ?_
        obtain ⟨r79, e79, h⟩ := bnd h
        refine afI X (runV C G X q_X12_both k_2173 kp_94 k_2171 (rcX12 G X kd_399) (c_X12_both l E e79) rfl hl.1 rfl (Nat.le_of_ble_eq_true rfl) ⟨Nat.le_of_ble_eq_true rfl, Nat.le_of_ble_eq_true rfl⟩ ⟨Nat.le_of_ble_eq_true rfl, Nat.le_of_ble_eq_true rfl⟩ dX12_sides_79) (fun H locs X => ?_)
        refine lv_goto (tgt := 86) C.1 C.2.1 dX12_sides_82 (by decide) ?_
        exact w_X12_sides_86 C G hr11 hr29 ih X (lv_sub hl [0, 1, 2, 3, 5, 6] rfl) h

set_option maxRecDepth 20000 in
theorem w_X12_sides_29 {r : (Int32 × Mem)} {rc11 : Int32 → Int32 → Int32 → Mem → Option (Int32 × Mem)} (C : Cx p s m args meth c cX12_sides (some .int) 7 RX12) (G : Gf E s) (hr11 : ∀ {x1 : Int32} {x2 : Int32} {x3 : Int32} {σ : Mem} {ls : Array Slot} {H : Heap} {locs : List Loc}, Hx E σ s H locs → lv_has ls 7 [(0, .ref (gB E + 399)), (1, .int x1), (2, .int x2), (3, .int x3)] → rc11 x1 x2 x3 σ = some r → W p l e (RM 3) s m args below meth c H locs 0 0 (QI E below args s r.1 r.2) (F0 m 11 ls [])) : ∀ (f : Nat) {x1 : Int32} {x2 : Int32} {x3 : Int32} {x4 : Int32} {x5 : Int32} {σ : Mem} {ls : Array Slot} {H : Heap} {locs : List Loc}, Hx E σ s H locs → lv_has ls 7 [(0, .ref (gB E + 399)), (1, .int x1), (2, .int x2), (3, .int x3), (4, .int x4), (5, .int x5)] → X12_sides_29 rc11 f x1 x2 x3 x4 x5 σ = some r → W p l e (RM 3) s m args below meth c H locs 0 0 (QI E below args s r.1 r.2) (F0 m 29 ls []) := by
  intro f
  induction f with
  | zero =>
    intro x1 x2 x3 x4 x5 σ ls H locs X hl h
    rw [X12_sides_29] at h
    cases h
  | succ f ih =>
    intro x1 x2 x3 x4 x5 σ ls H locs X hl h
    rw [X12_sides_29] at h
    refine lv_iload C.1 C.2.1 dX12_sides_29 (lv_at hl 5 rfl) ?_
    refine lv_aload_n C.1 C.2.1 dX12_sides_31 rfl (lv_at hl 0 rfl) ?_
    refine gfX12 C G X (k := 399) kd_399 1 (v := .ref (gB E + 400)) rfl rfl (by decide) k_1652 rfl dX12_sides_32 ?_
    refine lv_iconst (v := 4) C.1 C.2.1 dX12_sides_35 (by decide) ?_
    obtain ⟨r36, e36, h⟩ := bnd h
    refine ald C G X (k := 400) kd_400 (ag_s e36).1 dX12_sides_36 ?_
    rw [(ag_s e36).2]
    refine lv_icmp_ge (tgt := 101) C.1 C.2.1 dX12_sides_37 (by decide) (fun c37 => ?_) (fun c37 => ?_)
    · replace h := ipos c37 h
      refine lv_iload C.1 C.2.1 dX12_sides_101 (lv_at hl 4 rfl) ?_
      refine lv_iload_n C.1 C.2.1 dX12_sides_103 rfl (lv_at hl 2 rfl) ?_
      refine lv_icmp_gt (tgt := 110) C.1 C.2.1 dX12_sides_104 (by decide) (fun c104 => ?_) (fun c104 => ?_)
      · replace h := ipos c104 h
        refine lv_iload C.1 C.2.1 dX12_sides_110 (lv_at hl 4 rfl) ?_
        refine lv_istore_n (lv' := [(2, .int x4), (0, .ref (gB E + 399)), (1, .int x1), (3, .int x3), (4, .int x4), (5, .int x5)]) C.1 C.2.1 dX12_sides_112 rfl hl (by decide) rfl (fun ls hl => ?_)
        refine lv_iload_n C.1 C.2.1 dX12_sides_113 rfl (lv_at hl 3 rfl) ?_
        refine lv_istore_n (lv' := [(1, .int x3), (2, .int x4), (0, .ref (gB E + 399)), (3, .int x3), (4, .int x4), (5, .int x5)]) C.1 C.2.1 dX12_sides_114 rfl hl (by decide) rfl (fun ls hl => ?_)
        refine lv_iinc (v := (x3 + 2)) (lv' := [(3, .int (x3 + 2)), (1, .int x3), (2, .int x4), (0, .ref (gB E + 399)), (4, .int x4), (5, .int x5)]) C.1 C.2.1 dX12_sides_115 hl (k := 3) rfl rfl (by decide) rfl (fun ls hl => ?_)
        refine lv_goto (tgt := 11) C.1 C.2.1 dX12_sides_118 (by decide) ?_
        exact hr11 X (lv_sub hl [3, 1, 2, 0] rfl) h
      · replace h := ineg c104 h
        refine lv_goto (tgt := 115) C.1 C.2.1 dX12_sides_107 (by decide) ?_
        refine lv_iinc (v := (x3 + 2)) (lv' := [(3, .int (x3 + 2)), (0, .ref (gB E + 399)), (1, .int x1), (2, .int x2), (4, .int x4), (5, .int x5)]) C.1 C.2.1 dX12_sides_115 hl (k := 3) rfl rfl (by decide) rfl (fun ls hl => ?_)
        refine lv_goto (tgt := 11) C.1 C.2.1 dX12_sides_118 (by decide) ?_
        exact hr11 X (lv_sub hl [1, 2, 3, 0] rfl) h
    · replace h := ineg c37 h
      refine lv_iload C.1 C.2.1 dX12_sides_40 (lv_at hl 5 rfl) ?_
      refine lv_iconst (v := 1) C.1 C.2.1 dX12_sides_42 (by decide) ?_
      refine lv_iadd C.1 C.2.1 dX12_sides_43 ?_
      refine lv_istore (lv' := [(6, .int (x5 + (1 : Int32))), (0, .ref (gB E + 399)), (1, .int x1), (2, .int x2), (3, .int x3), (4, .int x4), (5, .int x5)]) C.1 C.2.1 dX12_sides_44 hl (by decide) rfl (fun ls hl => ?_)
      exact w_X12_sides_46 C G hr11 ih FU X (lv_sub hl [1, 2, 3, 4, 5, 6, 0] rfl) h

set_option maxRecDepth 20000 in
theorem w_X12_sides_11 {r : (Int32 × Mem)} (C : Cx p s m args meth c cX12_sides (some .int) 7 RX12) (G : Gf E s) : ∀ (f : Nat) {x1 : Int32} {x2 : Int32} {x3 : Int32} {σ : Mem} {ls : Array Slot} {H : Heap} {locs : List Loc}, Hx E σ s H locs → lv_has ls 7 [(0, .ref (gB E + 399)), (1, .int x1), (2, .int x2), (3, .int x3)] → X12_sides_11 f x1 x2 x3 σ = some r → W p l e (RM 3) s m args below meth c H locs 0 0 (QI E below args s r.1 r.2) (F0 m 11 ls []) := by
  intro f
  induction f with
  | zero =>
    intro x1 x2 x3 σ ls H locs X hl h
    rw [X12_sides_11] at h
    cases h
  | succ f ih =>
    intro x1 x2 x3 σ ls H locs X hl h
    rw [X12_sides_11] at h
    refine lv_iload_n C.1 C.2.1 dX12_sides_11 rfl (lv_at hl 3 rfl) ?_
    refine lv_iconst (v := 1) C.1 C.2.1 dX12_sides_12 (by decide) ?_
    refine lv_aload_n C.1 C.2.1 dX12_sides_13 rfl (lv_at hl 0 rfl) ?_
    refine gfX12 C G X (k := 399) kd_399 1 (v := .ref (gB E + 400)) rfl rfl (by decide) k_1652 rfl dX12_sides_14 ?_
    refine lv_iconst (v := 4) C.1 C.2.1 dX12_sides_17 (by decide) ?_
    obtain ⟨r18, e18, h⟩ := bnd h
    refine ald C G X (k := 400) kd_400 (ag_s e18).1 dX12_sides_18 ?_
    rw [(ag_s e18).2]
    refine lv_ishl C.1 C.2.1 dX12_sides_19 ?_
    refine lv_icmp_ge (tgt := 121) C.1 C.2.1 dX12_sides_20 (by decide) (fun c20 => ?_) (fun c20 => ?_)
    · replace h := ipos c20 h
      refine lv_iload_n C.1 C.2.1 dX12_sides_121 rfl (lv_at hl 1 rfl) ?_
      rw [← Option.some.inj h]
      exact rtI C X dX12_sides_122
    · replace h := ineg c20 h
      refine lv_iconst (v := 0) C.1 C.2.1 dX12_sides_23 (by decide) ?_
      refine lv_istore (lv' := [(4, .int (0 : Int32)), (0, .ref (gB E + 399)), (1, .int x1), (2, .int x2), (3, .int x3)]) C.1 C.2.1 dX12_sides_24 hl (by decide) rfl (fun ls hl => ?_)
      refine lv_iconst (v := 0) C.1 C.2.1 dX12_sides_26 (by decide) ?_
      refine lv_istore (lv' := [(5, .int (0 : Int32)), (4, .int (0 : Int32)), (0, .ref (gB E + 399)), (1, .int x1), (2, .int x2), (3, .int x3)]) C.1 C.2.1 dX12_sides_27 hl (by decide) rfl (fun ls hl => ?_)
      exact w_X12_sides_29 C G ih FU X (lv_sub hl [2, 3, 4, 5, 1, 0] rfl) h

set_option maxRecDepth 20000 in
theorem w_X12_sides {r : (Int32 × Mem)} {σ : Mem} {ls : Array Slot} {H : Heap} {locs : List Loc} (C : Cx p s m args meth c cX12_sides (some .int) 7 RX12) (G : Gf E s) (X : Hx E σ s H locs) (hl : lv_has ls 7 [(0, .ref (gB E + 399))]) (h : X12_sides σ = some r) : W p l e (RM 3) s m args below meth c H locs 0 0 (QI E below args s r.1 r.2) (F0 m 0 ls []) := by
  rw [X12_sides] at h
  refine lv_aload_n C.1 C.2.1 dX12_sides_0 rfl (lv_at hl 0 rfl) ?_
  refine lv_iconst (v := 0) C.1 C.2.1 dX12_sides_1 (by decide) ?_
  obtain ⟨σ2, e2, h⟩ := bnd h
  refine pfX12 C G X (k := 399) kd_399 0 (x := (0 : Int32)) (ty := .int) rfl rfl (Nat.le_of_ble_eq_true rfl) (by decide) k_1651 rfl rfl (by decide +kernel) rfl rfl dX12_sides_2 (fun H locs X => ?_)
  replace X := pu_x e2 X
  refine lv_iconst (v := -1) C.1 C.2.1 dX12_sides_5 (by decide) ?_
  refine lv_istore_n (lv' := [(1, .int (-1 : Int32)), (0, .ref (gB E + 399))]) C.1 C.2.1 dX12_sides_6 rfl hl (by decide) rfl (fun ls hl => ?_)
  refine lv_iconst (v := -1) C.1 C.2.1 dX12_sides_7 (by decide) ?_
  refine lv_istore_n (lv' := [(2, .int (-1 : Int32)), (1, .int (-1 : Int32)), (0, .ref (gB E + 399))]) C.1 C.2.1 dX12_sides_8 rfl hl (by decide) rfl (fun ls hl => ?_)
  refine lv_iconst (v := 2) C.1 C.2.1 dX12_sides_9 (by decide) ?_
  refine lv_istore_n (lv' := [(3, .int (2 : Int32)), (2, .int (-1 : Int32)), (1, .int (-1 : Int32)), (0, .ref (gB E + 399))]) C.1 C.2.1 dX12_sides_10 rfl hl (by decide) rfl (fun ls hl => ?_)
  exact w_X12_sides_11 C G FU X (lv_sub hl [3, 2, 1, 0] rfl) h

theorem c_X12_sides (l : Launch) (E : GE) {σ : Mem} {r : (Int32 × Mem)} (h : X12_sides σ = some r) : CtI l E yX12_sides cX12_sides 7 .int 3 [.ref (gB E + 399)] σ r.1 r.2 := by
  refine Met.ofW (cc := cX12_sides) (maxL := 7) (ret := (some .int)) (by decide) rfl ?_
  intro p e s m args below meth c s₁ B hml hv
  obtain ⟨rfl, G, X⟩ := start hv
  have C := cxof B hml
  have hl := lv_entry [.ref (gB E + 399)] (n := 7) (Nat.le_of_ble_eq_true rfl)
  rw [lg_entry_eq]
  generalize (lg_sl [.ref (gB E + 399)] ++ List.replicate (7 - (lg_sl [.ref (gB E + 399)]).length) Slot.unset).toArray = ls at hl ⊢
  exact w_X12_sides C G X hl h

set_option maxRecDepth 20000 in
theorem w_X12_lowest_2 {r : Int32} {σ : Mem} (C : Cx p s m args meth c cX12_lowest (some .int) 2 RX12) (G : Gf E s) : ∀ (f : Nat) {x0 : Int32} {x1 : Int32} {ls : Array Slot} {H : Heap} {locs : List Loc}, Hx E σ s H locs → lv_has ls 2 [(0, .int x0), (1, .int x1)] → X12_lowest_2 σ f x0 x1 = some r → W p l e (RM 2) s m args below meth c H locs 0 0 (QI E below args s r σ) (F0 m 2 ls []) := by
  intro f
  induction f with
  | zero =>
    intro x0 x1 ls H locs X hl h
    rw [X12_lowest_2] at h
    cases h
  | succ f ih =>
    intro x0 x1 ls H locs X hl h
    rw [X12_lowest_2] at h
    refine lv_iload_n C.1 C.2.1 dX12_lowest_2 rfl (lv_at hl 0 rfl) ?_
    refine lv_iload_n C.1 C.2.1 dX12_lowest_3 rfl (lv_at hl 1 rfl) ?_
    obtain ⟨r4, e4, h⟩ := bnd h
    refine afI X (runS C G X q_X12_isOf k_1943 k_1942 (c_X12_isOf l E e4) rfl hl.1 rfl (Nat.le_of_ble_eq_true rfl) ⟨Nat.le_of_ble_eq_true rfl, Nat.le_of_ble_eq_true rfl⟩ ⟨Nat.le_of_ble_eq_true rfl, Nat.le_of_ble_eq_true rfl⟩ dX12_lowest_4) (fun H locs X => ?_)
    refine lv_if_ne (tgt := 16) C.1 C.2.1 dX12_lowest_7 (by decide) (fun c7 => ?_) (fun c7 => ?_)
    · replace h := ineg c7 h
      refine lv_iload_n C.1 C.2.1 dX12_lowest_16 rfl (lv_at hl 1 rfl) ?_
      rw [← Option.some.inj h]
      exact rtI C X dX12_lowest_17
    · replace h := ipos c7 h
      refine lv_iinc (v := (x1 + 1)) (lv' := [(1, .int (x1 + 1)), (0, .int x0)]) C.1 C.2.1 dX12_lowest_10 hl (k := 1) rfl rfl (by decide) rfl (fun ls hl => ?_)
      refine lv_goto (tgt := 2) C.1 C.2.1 dX12_lowest_13 (by decide) ?_
      exact ih X (lv_sub hl [1, 0] rfl) h

set_option maxRecDepth 20000 in
theorem w_X12_lowest {r : Int32} {σ : Mem} {x0 : Int32} {ls : Array Slot} {H : Heap} {locs : List Loc} (C : Cx p s m args meth c cX12_lowest (some .int) 2 RX12) (G : Gf E s) (X : Hx E σ s H locs) (hl : lv_has ls 2 [(0, .int x0)]) (h : X12_lowest σ x0 = some r) : W p l e (RM 2) s m args below meth c H locs 0 0 (QI E below args s r σ) (F0 m 0 ls []) := by
  rw [X12_lowest] at h
  refine lv_iconst (v := 0) C.1 C.2.1 dX12_lowest_0 (by decide) ?_
  refine lv_istore_n (lv' := [(1, .int (0 : Int32)), (0, .int x0)]) C.1 C.2.1 dX12_lowest_1 rfl hl (by decide) rfl (fun ls hl => ?_)
  exact w_X12_lowest_2 C G FU X (lv_sub hl [1, 0] rfl) h

theorem c_X12_lowest (l : Launch) (E : GE) {σ : Mem} {x0 : Int32} {r : Int32} (h : X12_lowest σ x0 = some r) : CtI l E yX12_lowest cX12_lowest 2 .int 2 [.int x0] σ r σ := by
  refine Met.ofW (cc := cX12_lowest) (maxL := 2) (ret := (some .int)) (by decide) rfl ?_
  intro p e s m args below meth c s₁ B hml hv
  obtain ⟨rfl, G, X⟩ := start hv
  have C := cxof B hml
  have hl := lv_entry [.int x0] (n := 2) (Nat.le_of_ble_eq_true rfl)
  rw [lg_entry_eq]
  generalize (lg_sl [.int x0] ++ List.replicate (2 - (lg_sl [.int x0]).length) Slot.unset).toArray = ls at hl ⊢
  exact w_X12_lowest C G X hl h

set_option maxRecDepth 20000 in
theorem w_X12_mayPair {r : Int32} {σ : Mem} {x1 : Int32} {x2 : Int32} {ls : Array Slot} {H : Heap} {locs : List Loc} (C : Cx p s m args meth c cX12_mayPair (some .boolean) 3 RX12) (G : Gf E s) (X : Hx E σ s H locs) (hl : lv_has ls 3 [(0, .ref (gB E + 399)), (1, .int x1), (2, .int x2)]) (h : X12_mayPair σ x1 x2 = some r) : W p l e (RM 4) s m args below meth c H locs 0 0 (QI E below args s r σ) (F0 m 0 ls []) := by
  rw [X12_mayPair] at h
  refine lv_aload_n C.1 C.2.1 dX12_mayPair_0 rfl (lv_at hl 0 rfl) ?_
  refine lv_aload_n C.1 C.2.1 dX12_mayPair_1 rfl (lv_at hl 0 rfl) ?_
  refine lv_iload_n C.1 C.2.1 dX12_mayPair_2 rfl (lv_at hl 1 rfl) ?_
  refine lv_iconst (v := 0) C.1 C.2.1 dX12_mayPair_3 (by decide) ?_
  obtain ⟨r4, e4, h⟩ := bnd h
  refine afI X (runV C G X q_X12_ofWalker k_1915 kp_60 k_1913 (rcX12 G X kd_399) (c_X12_ofWalker l E e4) rfl hl.1 rfl (Nat.le_of_ble_eq_true rfl) ⟨Nat.le_of_ble_eq_true rfl, Nat.le_of_ble_eq_true rfl⟩ ⟨Nat.le_of_ble_eq_true rfl, Nat.le_of_ble_eq_true rfl⟩ dX12_mayPair_4) (fun H locs X => ?_)
  refine lv_aload_n C.1 C.2.1 dX12_mayPair_7 rfl (lv_at hl 0 rfl) ?_
  refine lv_iload_n C.1 C.2.1 dX12_mayPair_8 rfl (lv_at hl 2 rfl) ?_
  refine lv_iconst (v := 0) C.1 C.2.1 dX12_mayPair_9 (by decide) ?_
  obtain ⟨r10, e10, h⟩ := bnd h
  refine afI X (runV C G X q_X12_ofWalker k_1915 kp_60 k_1913 (rcX12 G X kd_399) (c_X12_ofWalker l E e10) rfl hl.1 rfl (Nat.le_of_ble_eq_true rfl) ⟨Nat.le_of_ble_eq_true rfl, Nat.le_of_ble_eq_true rfl⟩ ⟨Nat.le_of_ble_eq_true rfl, Nat.le_of_ble_eq_true rfl⟩ dX12_mayPair_10) (fun H locs X => ?_)
  obtain ⟨r13, e13, h⟩ := bnd h
  refine afI X (runV C G X q_X12_farOf k_1940 kp_66 k_1938 (rcX12 G X kd_399) (c_X12_farOf l E e13) rfl hl.1 rfl (Nat.le_of_ble_eq_true rfl) ⟨Nat.le_of_ble_eq_true rfl, Nat.le_of_ble_eq_true rfl⟩ ⟨Nat.le_of_ble_eq_true rfl, Nat.le_of_ble_eq_true rfl⟩ dX12_mayPair_13) (fun H locs X => ?_)
  refine lv_iconst (v := -1) C.1 C.2.1 dX12_mayPair_16 (by decide) ?_
  refine lv_icmp_eq (tgt := 24) C.1 C.2.1 dX12_mayPair_17 (by decide) (fun c17 => ?_) (fun c17 => ?_)
  · replace h := ipos c17 h
    refine lv_iconst (v := 0) C.1 C.2.1 dX12_mayPair_24 (by decide) ?_
    obtain ⟨u25, z25, h⟩ := bnd h
    rw [← Option.some.inj h]
    exact rtZ C X (gb_s z25) dX12_mayPair_25
  · replace h := ineg c17 h
    refine lv_iconst (v := 1) C.1 C.2.1 dX12_mayPair_20 (by decide) ?_
    refine lv_goto (tgt := 25) C.1 C.2.1 dX12_mayPair_21 (by decide) ?_
    obtain ⟨u25, z25, h⟩ := bnd h
    rw [← Option.some.inj h]
    exact rtZ C X (gb_s z25) dX12_mayPair_25

theorem c_X12_mayPair (l : Launch) (E : GE) {σ : Mem} {x1 : Int32} {x2 : Int32} {r : Int32} (h : X12_mayPair σ x1 x2 = some r) : CtI l E yX12_mayPair cX12_mayPair 3 .boolean 4 [.ref (gB E + 399), .int x1, .int x2] σ r σ := by
  refine Met.ofW (cc := cX12_mayPair) (maxL := 3) (ret := (some .boolean)) (by decide) rfl ?_
  intro p e s m args below meth c s₁ B hml hv
  obtain ⟨rfl, G, X⟩ := start hv
  have C := cxof B hml
  have hl := lv_entry [.ref (gB E + 399), .int x1, .int x2] (n := 3) (Nat.le_of_ble_eq_true rfl)
  rw [lg_entry_eq]
  generalize (lg_sl [.ref (gB E + 399), .int x1, .int x2] ++ List.replicate (3 - (lg_sl [.ref (gB E + 399), .int x1, .int x2]).length) Slot.unset).toArray = ls at hl ⊢
  exact w_X12_mayPair C G X hl h

set_option maxRecDepth 20000 in
theorem w_X12_allBest_51 {r : Mem} {rc9 : Int32 → Mem → Option Mem} (C : Cx p s m args meth c cX12_allBest none 5 RX12) (G : Gf E s) (hr9 : ∀ {x1 : Int32} {σ : Mem} {ls : Array Slot} {H : Heap} {locs : List Loc}, Hx E σ s H locs → lv_has ls 5 [(0, .ref (gB E + 399)), (1, .int x1)] → rc9 x1 σ = some r → W p l e (RM 5) s m args below meth c H locs 0 0 (QV E below args s r) (F0 m 9 ls [])) : ∀ (f : Nat) {x1 : Int32} {x2 : Int32} {x3 : Int32} {x4 : Int32} {σ : Mem} {ls : Array Slot} {H : Heap} {locs : List Loc}, Hx E σ s H locs → lv_has ls 5 [(0, .ref (gB E + 399)), (1, .int x1), (2, .int x2), (3, .int x3), (4, .int x4)] → X12_allBest_51 rc9 f x1 x2 x3 x4 σ = some r → W p l e (RM 5) s m args below meth c H locs 0 0 (QV E below args s r) (F0 m 51 ls []) := by
  intro f
  induction f with
  | zero =>
    intro x1 x2 x3 x4 σ ls H locs X hl h
    rw [X12_allBest_51] at h
    cases h
  | succ f ih =>
    intro x1 x2 x3 x4 σ ls H locs X hl h
    rw [X12_allBest_51] at h
    refine lv_iload C.1 C.2.1 dX12_allBest_51 (lv_at hl 4 rfl) ?_
    refine lv_aload_n C.1 C.2.1 dX12_allBest_53 rfl (lv_at hl 0 rfl) ?_
    refine gfX12 C G X (k := 399) kd_399 1 (v := .ref (gB E + 400)) rfl rfl (by decide) k_1652 rfl dX12_allBest_54 ?_
    refine lv_iconst (v := 4) C.1 C.2.1 dX12_allBest_57 (by decide) ?_
    obtain ⟨r58, e58, h⟩ := bnd h
    refine ald C G X (k := 400) kd_400 (ag_s e58).1 dX12_allBest_58 ?_
    rw [(ag_s e58).2]
    refine lv_icmp_ge (tgt := 123) C.1 C.2.1 dX12_allBest_59 (by decide) (fun c59 => ?_) (fun c59 => ?_)
    · replace h := ipos c59 h
      refine lv_iinc (v := (x1 + 1)) (lv' := [(1, .int (x1 + 1)), (0, .ref (gB E + 399)), (2, .int x2), (3, .int x3), (4, .int x4)]) C.1 C.2.1 dX12_allBest_123 hl (k := 1) rfl rfl (by decide) rfl (fun ls hl => ?_)
      refine lv_goto (tgt := 9) C.1 C.2.1 dX12_allBest_126 (by decide) ?_
      exact hr9 X (lv_sub hl [1, 0] rfl) h
    · replace h := ineg c59 h
      refine lv_iload_n C.1 C.2.1 dX12_allBest_62 rfl (lv_at hl 3 rfl) ?_
      refine lv_iload C.1 C.2.1 dX12_allBest_63 (lv_at hl 4 rfl) ?_
      obtain ⟨r65, e65, h⟩ := bnd h
      refine afI X (runS C G X q_X12_isOf k_1943 k_1942 (c_X12_isOf l E e65) rfl hl.1 rfl (Nat.le_of_ble_eq_true rfl) ⟨Nat.le_of_ble_eq_true rfl, Nat.le_of_ble_eq_true rfl⟩ ⟨Nat.le_of_ble_eq_true rfl, Nat.le_of_ble_eq_true rfl⟩ dX12_allBest_65) (fun H locs X => ?_)
      refine lv_if_eq (tgt := 117) C.1 C.2.1 dX12_allBest_68 (by decide) (fun c68 => ?_) (fun c68 => ?_)
      · replace h := ipos c68 h
        refine lv_iinc (v := (x4 + 1)) (lv' := [(4, .int (x4 + 1)), (0, .ref (gB E + 399)), (1, .int x1), (2, .int x2), (3, .int x3)]) C.1 C.2.1 dX12_allBest_117 hl (k := 4) rfl rfl (by decide) rfl (fun ls hl => ?_)
        refine lv_goto (tgt := 51) C.1 C.2.1 dX12_allBest_120 (by decide) ?_
        exact ih X (lv_sub hl [1, 2, 3, 4, 0] rfl) h
      · replace h := ineg c68 h
        refine lv_aload_n C.1 C.2.1 dX12_allBest_71 rfl (lv_at hl 0 rfl) ?_
        refine lv_iload_n C.1 C.2.1 dX12_allBest_72 rfl (lv_at hl 2 rfl) ?_
        refine lv_iload C.1 C.2.1 dX12_allBest_73 (lv_at hl 4 rfl) ?_
        obtain ⟨r75, e75, h⟩ := bnd h
        refine afI X (runV C G X q_X12_mayPair k_2188 kp_96 k_2186 (rcX12 G X kd_399) (c_X12_mayPair l E e75) rfl hl.1 rfl (Nat.le_of_ble_eq_true rfl) ⟨Nat.le_of_ble_eq_true rfl, Nat.le_of_ble_eq_true rfl⟩ ⟨Nat.le_of_ble_eq_true rfl, Nat.le_of_ble_eq_true rfl⟩ dX12_allBest_75) (fun H locs X => ?_)
        refine lv_if_eq (tgt := 117) C.1 C.2.1 dX12_allBest_78 (by decide) (fun c78 => ?_) (fun c78 => ?_)
        · replace h := ipos c78 h
          refine lv_iinc (v := (x4 + 1)) (lv' := [(4, .int (x4 + 1)), (0, .ref (gB E + 399)), (1, .int x1), (2, .int x2), (3, .int x3)]) C.1 C.2.1 dX12_allBest_117 hl (k := 4) rfl rfl (by decide) rfl (fun ls hl => ?_)
          refine lv_goto (tgt := 51) C.1 C.2.1 dX12_allBest_120 (by decide) ?_
          exact ih X (lv_sub hl [1, 2, 3, 4, 0] rfl) h
        · replace h := ineg c78 h
          refine lv_aload_n C.1 C.2.1 dX12_allBest_81 rfl (lv_at hl 0 rfl) ?_
          refine gfX12 C G X (k := 399) kd_399 20 (v := .ref (gB E + 408)) rfl rfl (by decide) k_1671 rfl dX12_allBest_82 ?_
          refine lv_iload_n C.1 C.2.1 dX12_allBest_85 rfl (lv_at hl 1 rfl) ?_
          refine lv_aload_n C.1 C.2.1 dX12_allBest_86 rfl (lv_at hl 0 rfl) ?_
          refine gfX12 C G X (k := 399) kd_399 20 (v := .ref (gB E + 408)) rfl rfl (by decide) k_1671 rfl dX12_allBest_87 ?_
          refine lv_iload_n C.1 C.2.1 dX12_allBest_90 rfl (lv_at hl 1 rfl) ?_
          obtain ⟨r91, e91, h⟩ := bnd h
          refine ald C G X (k := 408) kd_408 (ag_s e91).1 dX12_allBest_91 ?_
          rw [(ag_s e91).2]
          refine lv_aload_n C.1 C.2.1 dX12_allBest_92 rfl (lv_at hl 0 rfl) ?_
          refine lv_iload_n C.1 C.2.1 dX12_allBest_93 rfl (lv_at hl 2 rfl) ?_
          refine lv_iload C.1 C.2.1 dX12_allBest_94 (lv_at hl 4 rfl) ?_
          obtain ⟨r96, e96, h⟩ := bnd h
          refine afI X (runV C G X q_X12_both k_2173 kp_94 k_2171 (rcX12 G X kd_399) (c_X12_both l E e96) rfl hl.1 rfl (Nat.le_of_ble_eq_true rfl) ⟨Nat.le_of_ble_eq_true rfl, Nat.le_of_ble_eq_true rfl⟩ ⟨Nat.le_of_ble_eq_true rfl, Nat.le_of_ble_eq_true rfl⟩ dX12_allBest_96) (fun H locs X => ?_)
          refine lv_aload_n C.1 C.2.1 dX12_allBest_99 rfl (lv_at hl 0 rfl) ?_
          refine gfX12 C G X (k := 399) kd_399 20 (v := .ref (gB E + 408)) rfl rfl (by decide) k_1671 rfl dX12_allBest_100 ?_
          refine lv_iload_n C.1 C.2.1 dX12_allBest_103 rfl (lv_at hl 3 rfl) ?_
          refine lv_iconst (v := 1) C.1 C.2.1 dX12_allBest_104 (by decide) ?_
          refine lv_iload C.1 C.2.1 dX12_allBest_105 (lv_at hl 4 rfl) ?_
          refine lv_ishl C.1 C.2.1 dX12_allBest_107 ?_
          refine lv_iconst (v := -1) C.1 C.2.1 dX12_allBest_108 (by decide) ?_
          refine lv_ixor C.1 C.2.1 dX12_allBest_109 ?_
          refine lv_iand C.1 C.2.1 dX12_allBest_110 ?_
          obtain ⟨r111, e111, h⟩ := bnd h
          refine ald C G X (k := 408) kd_408 (ag_s e111).1 dX12_allBest_111 ?_
          rw [(ag_s e111).2]
          refine lv_iadd C.1 C.2.1 dX12_allBest_112 ?_
          obtain ⟨r113, e113, h⟩ := bnd h
          refine afI X (runS C G X q_X12_greater k_1969 k_1968 (c_X12_greater l E e113) rfl hl.1 rfl (Nat.le_of_ble_eq_true rfl) ⟨Nat.le_of_ble_eq_true rfl, Nat.le_of_ble_eq_true rfl⟩ ⟨Nat.le_of_ble_eq_true rfl, Nat.le_of_ble_eq_true rfl⟩ dX12_allBest_113) (fun H locs X => ?_)
          obtain ⟨σ116, e116, h⟩ := bnd h
          refine ast C G X (k := 408) kd_408 (au_s e116).1 dX12_allBest_116 (fun H locs X => ?_)
          rw [(au_s e116).2] at X
          refine lv_iinc (v := (x4 + 1)) (lv' := [(4, .int (x4 + 1)), (0, .ref (gB E + 399)), (1, .int x1), (2, .int x2), (3, .int x3)]) C.1 C.2.1 dX12_allBest_117 hl (k := 4) rfl rfl (by decide) rfl (fun ls hl => ?_)
          refine lv_goto (tgt := 51) C.1 C.2.1 dX12_allBest_120 (by decide) ?_
          exact ih X (lv_sub hl [1, 2, 3, 4, 0] rfl) h

set_option maxRecDepth 20000 in
theorem w_X12_allBest_9 {r : Mem} (C : Cx p s m args meth c cX12_allBest none 5 RX12) (G : Gf E s) : ∀ (f : Nat) {x1 : Int32} {σ : Mem} {ls : Array Slot} {H : Heap} {locs : List Loc}, Hx E σ s H locs → lv_has ls 5 [(0, .ref (gB E + 399)), (1, .int x1)] → X12_allBest_9 f x1 σ = some r → W p l e (RM 5) s m args below meth c H locs 0 0 (QV E below args s r) (F0 m 9 ls []) := by
  intro f
  induction f with
  | zero =>
    intro x1 σ ls H locs X hl h
    rw [X12_allBest_9] at h
    cases h
  | succ f ih =>
    intro x1 σ ls H locs X hl h
    rw [X12_allBest_9] at h
    refine lv_iload_n C.1 C.2.1 dX12_allBest_9 rfl (lv_at hl 1 rfl) ?_
    refine lv_iconst (v := 1) C.1 C.2.1 dX12_allBest_10 (by decide) ?_
    refine lv_aload_n C.1 C.2.1 dX12_allBest_11 rfl (lv_at hl 0 rfl) ?_
    refine gfX12 C G X (k := 399) kd_399 1 (v := .ref (gB E + 400)) rfl rfl (by decide) k_1652 rfl dX12_allBest_12 ?_
    refine lv_iconst (v := 4) C.1 C.2.1 dX12_allBest_15 (by decide) ?_
    obtain ⟨r16, e16, h⟩ := bnd h
    refine ald C G X (k := 400) kd_400 (ag_s e16).1 dX12_allBest_16 ?_
    rw [(ag_s e16).2]
    refine lv_ishl C.1 C.2.1 dX12_allBest_17 ?_
    refine lv_icmp_ge (tgt := 129) C.1 C.2.1 dX12_allBest_18 (by decide) (fun c18 => ?_) (fun c18 => ?_)
    · replace h := ipos c18 h
      rw [← Option.some.inj h]
      exact rtV C X dX12_allBest_129
    · replace h := ineg c18 h
      refine lv_iload_n C.1 C.2.1 dX12_allBest_21 rfl (lv_at hl 1 rfl) ?_
      obtain ⟨r22, e22, h⟩ := bnd h
      refine afI X (runS C G X q_X12_lowest k_2184 k_2183 (c_X12_lowest l E e22) rfl hl.1 rfl (Nat.le_of_ble_eq_true rfl) ⟨Nat.le_of_ble_eq_true rfl, Nat.le_of_ble_eq_true rfl⟩ ⟨Nat.le_of_ble_eq_true rfl, Nat.le_of_ble_eq_true rfl⟩ dX12_allBest_22) (fun H locs X => ?_)
      refine lv_istore_n (lv' := [(2, .int r22), (0, .ref (gB E + 399)), (1, .int x1)]) C.1 C.2.1 dX12_allBest_25 rfl hl (by decide) rfl (fun ls hl => ?_)
      refine lv_iload_n C.1 C.2.1 dX12_allBest_26 rfl (lv_at hl 2 rfl) ?_
      refine lv_iconst (v := 1) C.1 C.2.1 dX12_allBest_27 (by decide) ?_
      refine lv_iload_n C.1 C.2.1 dX12_allBest_28 rfl (lv_at hl 0 rfl) ?_
      refine lv_ishl C.1 C.2.1 dX12_allBest_29 ?_
      refine lv_iconst (v := -1) C.1 C.2.1 dX12_allBest_30 (by decide) ?_
      refine lv_ixor C.1 C.2.1 dX12_allBest_31 ?_
      refine lv_iand C.1 C.2.1 dX12_allBest_32 ?_
      obtain ⟨v33, e33, h⟩ := bnd h
      rw [Option.some.inj e33]
      refine lv_istore_n (lv' := [(3, .int v33), (2, .int r22), (0, .ref (gB E + 399)), (1, .int x1)]) C.1 C.2.1 dX12_allBest_33 rfl hl (by decide) rfl (fun ls hl => ?_)
      refine lv_aload_n C.1 C.2.1 dX12_allBest_34 rfl (lv_at hl 2 rfl) ?_
      refine gfX12 C G X (k := 399) kd_399 20 (v := .ref (gB E + 408)) rfl rfl (by decide) k_1671 rfl dX12_allBest_35 ?_
      refine lv_iload_n C.1 C.2.1 dX12_allBest_38 rfl (lv_at hl 3 rfl) ?_
      refine lv_aload_n C.1 C.2.1 dX12_allBest_39 rfl (lv_at hl 2 rfl) ?_
      refine gfX12 C G X (k := 399) kd_399 20 (v := .ref (gB E + 408)) rfl rfl (by decide) k_1671 rfl dX12_allBest_40 ?_
      refine lv_iload_n C.1 C.2.1 dX12_allBest_43 rfl (lv_at hl 0 rfl) ?_
      obtain ⟨r44, e44, h⟩ := bnd h
      refine ald C G X (k := 408) kd_408 (ag_s e44).1 dX12_allBest_44 ?_
      rw [(ag_s e44).2]
      obtain ⟨σ45, e45, h⟩ := bnd h
      refine ast C G X (k := 408) kd_408 (au_s e45).1 dX12_allBest_45 (fun H locs X => ?_)
      rw [(au_s e45).2] at X
      refine lv_iload_n C.1 C.2.1 dX12_allBest_46 rfl (lv_at hl 1 rfl) ?_
      refine lv_iconst (v := 1) C.1 C.2.1 dX12_allBest_47 (by decide) ?_
      refine lv_iadd C.1 C.2.1 dX12_allBest_48 ?_
      refine lv_istore (lv' := [(4, .int (r22 + (1 : Int32))), (3, .int v33), (2, .int r22), (0, .ref (gB E + 399)), (1, .int x1)]) C.1 C.2.1 dX12_allBest_49 hl (by decide) rfl (fun ls hl => ?_)
      exact w_X12_allBest_51 C G ih FU X (lv_sub hl [3, 4, 2, 1, 0] rfl) h

set_option maxRecDepth 20000 in
theorem w_X12_allBest {r : Mem} {σ : Mem} {ls : Array Slot} {H : Heap} {locs : List Loc} (C : Cx p s m args meth c cX12_allBest none 5 RX12) (G : Gf E s) (X : Hx E σ s H locs) (hl : lv_has ls 5 [(0, .ref (gB E + 399))]) (h : X12_allBest σ = some r) : W p l e (RM 5) s m args below meth c H locs 0 0 (QV E below args s r) (F0 m 0 ls []) := by
  rw [X12_allBest] at h
  refine lv_aload_n C.1 C.2.1 dX12_allBest_0 rfl (lv_at hl 0 rfl) ?_
  refine gfX12 C G X (k := 399) kd_399 20 (v := .ref (gB E + 408)) rfl rfl (by decide) k_1671 rfl dX12_allBest_1 ?_
  refine lv_iconst (v := 0) C.1 C.2.1 dX12_allBest_4 (by decide) ?_
  refine lv_iconst (v := 0) C.1 C.2.1 dX12_allBest_5 (by decide) ?_
  obtain ⟨σ6, e6, h⟩ := bnd h
  refine ast C G X (k := 408) kd_408 (au_s e6).1 dX12_allBest_6 (fun H locs X => ?_)
  rw [(au_s e6).2] at X
  refine lv_iconst (v := 1) C.1 C.2.1 dX12_allBest_7 (by decide) ?_
  refine lv_istore_n (lv' := [(1, .int (1 : Int32)), (0, .ref (gB E + 399))]) C.1 C.2.1 dX12_allBest_8 rfl hl (by decide) rfl (fun ls hl => ?_)
  exact w_X12_allBest_9 C G FU X (lv_sub hl [1, 0] rfl) h

theorem c_X12_allBest (l : Launch) (E : GE) {σ : Mem} {r : Mem} (h : X12_allBest σ = some r) : CtV l E yX12_allBest cX12_allBest 5 5 [.ref (gB E + 399)] σ r := by
  refine Met.ofW (cc := cX12_allBest) (maxL := 5) (ret := none) (by decide) rfl ?_
  intro p e s m args below meth c s₁ B hml hv
  obtain ⟨rfl, G, X⟩ := start hv
  have C := cxof B hml
  have hl := lv_entry [.ref (gB E + 399)] (n := 5) (Nat.le_of_ble_eq_true rfl)
  rw [lg_entry_eq]
  generalize (lg_sl [.ref (gB E + 399)] ++ List.replicate (5 - (lg_sl [.ref (gB E + 399)]).length) Slot.unset).toArray = ls at hl ⊢
  exact w_X12_allBest C G X hl h

set_option maxRecDepth 20000 in
theorem w_X12_pairs_208 {r : (Int32 × Mem)} {σ : Mem} {rc58 : Int32 → Int32 → Mem → Option (Int32 × Mem)} {x1 : Int32} {y0 : Int32} {ls : Array Slot} {H : Heap} {locs : List Loc} (C : Cx p s m args meth c cX12_pairs (some .int) 7 RX12) (G : Gf E s) (hr58 : ∀ {x1 : Int32} {x2 : Int32} {σ : Mem} {ls : Array Slot} {H : Heap} {locs : List Loc}, Hx E σ s H locs → lv_has ls 7 [(0, .ref (gB E + 399)), (1, .int x1), (2, .int x2)] → rc58 x1 x2 σ = some r → W p l e (RM 6) s m args below meth c H locs 0 0 (QI E below args s r.1 r.2) (F0 m 58 ls [])) (X : Hx E σ s H locs) (hl : lv_has ls 7 [(0, .ref (gB E + 399)), (1, .int x1)]) (h : X12_pairs_208 rc58 x1 y0 σ = some r) : W p l e (RM 6) s m args below meth c H locs 0 0 (QI E below args s r.1 r.2) (F0 m 208 ls [.int y0]) := by
  rw [X12_pairs_208] at h
  refine lv_istore_n (lv' := [(2, .int y0), (0, .ref (gB E + 399)), (1, .int x1)]) C.1 C.2.1 dX12_pairs_208 rfl hl (by decide) rfl (fun ls hl => ?_)
  refine lv_goto (tgt := 58) C.1 C.2.1 dX12_pairs_209 (by decide) ?_
  exact hr58 X (lv_sub hl [1, 2, 0] rfl) h

set_option maxRecDepth 20000 in
theorem w_X12_pairs_172 {r : (Int32 × Mem)} {σ : Mem} {rc58 : Int32 → Int32 → Mem → Option (Int32 × Mem)} {x1 : Int32} {x3 : Int32} {x4 : Int32} {x5 : Int32} {ls : Array Slot} {H : Heap} {locs : List Loc} (C : Cx p s m args meth c cX12_pairs (some .int) 7 RX12) (G : Gf E s) (hr58 : ∀ {x1 : Int32} {x2 : Int32} {σ : Mem} {ls : Array Slot} {H : Heap} {locs : List Loc}, Hx E σ s H locs → lv_has ls 7 [(0, .ref (gB E + 399)), (1, .int x1), (2, .int x2)] → rc58 x1 x2 σ = some r → W p l e (RM 6) s m args below meth c H locs 0 0 (QI E below args s r.1 r.2) (F0 m 58 ls [])) (X : Hx E σ s H locs) (hl : lv_has ls 7 [(0, .ref (gB E + 399)), (1, .int x1), (3, .int x3), (4, .int x4), (5, .int x5)]) (h : X12_pairs_172 rc58 x1 x3 x4 x5 σ = some r) : W p l e (RM 6) s m args below meth c H locs 0 0 (QI E below args s r.1 r.2) (F0 m 172 ls []) := by
  rw [X12_pairs_172] at h
  refine lv_iload_n C.1 C.2.1 dX12_pairs_172 rfl (lv_at hl 2 rfl) ?_
  refine lv_iload_n C.1 C.2.1 dX12_pairs_173 rfl (lv_at hl 1 rfl) ?_
  refine lv_icmp_ne (tgt := 180) C.1 C.2.1 dX12_pairs_174 (by decide) (fun c174 => ?_) (fun c174 => ?_)
  · replace h := ineg c174 h
    refine lv_iload C.1 C.2.1 dX12_pairs_180 (lv_at hl 4 rfl) ?_
    refine lv_iload_n C.1 C.2.1 dX12_pairs_182 rfl (lv_at hl 1 rfl) ?_
    refine lv_icmp_ne (tgt := 188) C.1 C.2.1 dX12_pairs_183 (by decide) (fun c183 => ?_) (fun c183 => ?_)
    · replace h := ineg c183 h
      refine lv_iload C.1 C.2.1 dX12_pairs_188 (lv_at hl 4 rfl) ?_
      refine lv_iconst (v := -1) C.1 C.2.1 dX12_pairs_190 (by decide) ?_
      refine lv_icmp_ne (tgt := 199) C.1 C.2.1 dX12_pairs_191 (by decide) (fun c191 => ?_) (fun c191 => ?_)
      · replace h := ineg c191 h
        refine lv_iload C.1 C.2.1 dX12_pairs_199 (lv_at hl 3 rfl) ?_
        refine lv_iconst (v := 1) C.1 C.2.1 dX12_pairs_201 (by decide) ?_
        refine lv_iload C.1 C.2.1 dX12_pairs_202 (lv_at hl 4 rfl) ?_
        refine lv_ishl C.1 C.2.1 dX12_pairs_204 ?_
        refine lv_iconst (v := -1) C.1 C.2.1 dX12_pairs_205 (by decide) ?_
        refine lv_ixor C.1 C.2.1 dX12_pairs_206 ?_
        refine lv_iand C.1 C.2.1 dX12_pairs_207 ?_
        exact w_X12_pairs_208 C G hr58 X (lv_sub hl [0, 1] rfl) h
      · replace h := ipos c191 h
        refine lv_iload C.1 C.2.1 dX12_pairs_194 (lv_at hl 3 rfl) ?_
        refine lv_goto (tgt := 208) C.1 C.2.1 dX12_pairs_196 (by decide) ?_
        exact w_X12_pairs_208 C G hr58 X (lv_sub hl [0, 1] rfl) h
    · replace h := ipos c183 h
      refine lv_iload_n C.1 C.2.1 dX12_pairs_186 rfl (lv_at hl 2 rfl) ?_
      rw [← Option.some.inj h]
      exact rtI C X dX12_pairs_187
  · replace h := ipos c174 h
    refine lv_iload C.1 C.2.1 dX12_pairs_177 (lv_at hl 4 rfl) ?_
    rw [← Option.some.inj h]
    exact rtI C X dX12_pairs_179

set_option maxRecDepth 20000 in
theorem w_X12_pairs_89 {r : (Int32 × Mem)} {rc58 : Int32 → Int32 → Mem → Option (Int32 × Mem)} (C : Cx p s m args meth c cX12_pairs (some .int) 7 RX12) (G : Gf E s) (hr58 : ∀ {x1 : Int32} {x2 : Int32} {σ : Mem} {ls : Array Slot} {H : Heap} {locs : List Loc}, Hx E σ s H locs → lv_has ls 7 [(0, .ref (gB E + 399)), (1, .int x1), (2, .int x2)] → rc58 x1 x2 σ = some r → W p l e (RM 6) s m args below meth c H locs 0 0 (QI E below args s r.1 r.2) (F0 m 58 ls [])) : ∀ (f : Nat) {x1 : Int32} {x2 : Int32} {x3 : Int32} {x4 : Int32} {x5 : Int32} {x6 : Int32} {σ : Mem} {ls : Array Slot} {H : Heap} {locs : List Loc}, Hx E σ s H locs → lv_has ls 7 [(0, .ref (gB E + 399)), (1, .int x1), (2, .int x2), (3, .int x3), (4, .int x4), (5, .int x5), (6, .int x6)] → X12_pairs_89 rc58 f x1 x2 x3 x4 x5 x6 σ = some r → W p l e (RM 6) s m args below meth c H locs 0 0 (QI E below args s r.1 r.2) (F0 m 89 ls []) := by
  intro f
  induction f with
  | zero =>
    intro x1 x2 x3 x4 x5 x6 σ ls H locs X hl h
    rw [X12_pairs_89] at h
    cases h
  | succ f ih =>
    intro x1 x2 x3 x4 x5 x6 σ ls H locs X hl h
    rw [X12_pairs_89] at h
    refine lv_iload C.1 C.2.1 dX12_pairs_89 (lv_at hl 6 rfl) ?_
    refine lv_iload_n C.1 C.2.1 dX12_pairs_91 rfl (lv_at hl 3 rfl) ?_
    refine lv_icmp_le (tgt := 172) C.1 C.2.1 dX12_pairs_92 (by decide) (fun c92 => ?_) (fun c92 => ?_)
    · replace h := ipos c92 h
      exact w_X12_pairs_172 C G hr58 X (lv_sub hl [0, 1, 3, 4, 5] rfl) h
    · replace h := ineg c92 h
      refine lv_aload_n C.1 C.2.1 dX12_pairs_95 rfl (lv_at hl 0 rfl) ?_
      refine gfX12 C G X (k := 399) kd_399 20 (v := .ref (gB E + 408)) rfl rfl (by decide) k_1671 rfl dX12_pairs_96 ?_
      refine lv_iload C.1 C.2.1 dX12_pairs_99 (lv_at hl 4 rfl) ?_
      obtain ⟨r101, e101, h⟩ := bnd h
      refine ald C G X (k := 408) kd_408 (ag_s e101).1 dX12_pairs_101 ?_
      rw [(ag_s e101).2]
      refine lv_aload_n C.1 C.2.1 dX12_pairs_102 rfl (lv_at hl 0 rfl) ?_
      refine gfX12 C G X (k := 399) kd_399 20 (v := .ref (gB E + 408)) rfl rfl (by decide) k_1671 rfl dX12_pairs_103 ?_
      refine lv_iload_n C.1 C.2.1 dX12_pairs_106 rfl (lv_at hl 2 rfl) ?_
      obtain ⟨r107, e107, h⟩ := bnd h
      refine ald C G X (k := 408) kd_408 (ag_s e107).1 dX12_pairs_107 ?_
      rw [(ag_s e107).2]
      refine lv_icmp_eq (tgt := 172) C.1 C.2.1 dX12_pairs_108 (by decide) (fun c108 => ?_) (fun c108 => ?_)
      · replace h := ipos c108 h
        exact w_X12_pairs_172 C G hr58 X (lv_sub hl [0, 1, 3, 4, 5] rfl) h
      · replace h := ineg c108 h
        refine lv_iload C.1 C.2.1 dX12_pairs_111 (lv_at hl 4 rfl) ?_
        refine lv_iload C.1 C.2.1 dX12_pairs_113 (lv_at hl 6 rfl) ?_
        obtain ⟨r115, e115, h⟩ := bnd h
        refine afI X (runS C G X q_X12_isOf k_1943 k_1942 (c_X12_isOf l E e115) rfl hl.1 rfl (Nat.le_of_ble_eq_true rfl) ⟨Nat.le_of_ble_eq_true rfl, Nat.le_of_ble_eq_true rfl⟩ ⟨Nat.le_of_ble_eq_true rfl, Nat.le_of_ble_eq_true rfl⟩ dX12_pairs_115) (fun H locs X => ?_)
        refine lv_if_eq (tgt := 166) C.1 C.2.1 dX12_pairs_118 (by decide) (fun c118 => ?_) (fun c118 => ?_)
        · replace h := ipos c118 h
          refine lv_iinc (v := (x6 + (-1))) (lv' := [(6, .int (x6 + (-1))), (0, .ref (gB E + 399)), (1, .int x1), (2, .int x2), (3, .int x3), (4, .int x4), (5, .int x5)]) C.1 C.2.1 dX12_pairs_166 hl (k := 6) rfl rfl (by decide) rfl (fun ls hl => ?_)
          refine lv_goto (tgt := 89) C.1 C.2.1 dX12_pairs_169 (by decide) ?_
          exact ih X (lv_sub hl [1, 2, 3, 4, 5, 6, 0] rfl) h
        · replace h := ineg c118 h
          refine lv_aload_n C.1 C.2.1 dX12_pairs_121 rfl (lv_at hl 0 rfl) ?_
          refine lv_iload_n C.1 C.2.1 dX12_pairs_122 rfl (lv_at hl 3 rfl) ?_
          refine lv_iload C.1 C.2.1 dX12_pairs_123 (lv_at hl 6 rfl) ?_
          obtain ⟨r125, e125, h⟩ := bnd h
          refine afI X (runV C G X q_X12_mayPair k_2188 kp_96 k_2186 (rcX12 G X kd_399) (c_X12_mayPair l E e125) rfl hl.1 rfl (Nat.le_of_ble_eq_true rfl) ⟨Nat.le_of_ble_eq_true rfl, Nat.le_of_ble_eq_true rfl⟩ ⟨Nat.le_of_ble_eq_true rfl, Nat.le_of_ble_eq_true rfl⟩ dX12_pairs_125) (fun H locs X => ?_)
          refine lv_if_eq (tgt := 166) C.1 C.2.1 dX12_pairs_128 (by decide) (fun c128 => ?_) (fun c128 => ?_)
          · replace h := ipos c128 h
            refine lv_iinc (v := (x6 + (-1))) (lv' := [(6, .int (x6 + (-1))), (0, .ref (gB E + 399)), (1, .int x1), (2, .int x2), (3, .int x3), (4, .int x4), (5, .int x5)]) C.1 C.2.1 dX12_pairs_166 hl (k := 6) rfl rfl (by decide) rfl (fun ls hl => ?_)
            refine lv_goto (tgt := 89) C.1 C.2.1 dX12_pairs_169 (by decide) ?_
            exact ih X (lv_sub hl [1, 2, 3, 4, 5, 6, 0] rfl) h
          · replace h := ineg c128 h
            refine lv_aload_n C.1 C.2.1 dX12_pairs_131 rfl (lv_at hl 0 rfl) ?_
            refine lv_iload_n C.1 C.2.1 dX12_pairs_132 rfl (lv_at hl 3 rfl) ?_
            refine lv_iload C.1 C.2.1 dX12_pairs_133 (lv_at hl 6 rfl) ?_
            obtain ⟨r135, e135, h⟩ := bnd h
            refine afI X (runV C G X q_X12_both k_2173 kp_94 k_2171 (rcX12 G X kd_399) (c_X12_both l E e135) rfl hl.1 rfl (Nat.le_of_ble_eq_true rfl) ⟨Nat.le_of_ble_eq_true rfl, Nat.le_of_ble_eq_true rfl⟩ ⟨Nat.le_of_ble_eq_true rfl, Nat.le_of_ble_eq_true rfl⟩ dX12_pairs_135) (fun H locs X => ?_)
            refine lv_aload_n C.1 C.2.1 dX12_pairs_138 rfl (lv_at hl 0 rfl) ?_
            refine gfX12 C G X (k := 399) kd_399 20 (v := .ref (gB E + 408)) rfl rfl (by decide) k_1671 rfl dX12_pairs_139 ?_
            refine lv_iload C.1 C.2.1 dX12_pairs_142 (lv_at hl 4 rfl) ?_
            refine lv_iconst (v := 1) C.1 C.2.1 dX12_pairs_144 (by decide) ?_
            refine lv_iload C.1 C.2.1 dX12_pairs_145 (lv_at hl 6 rfl) ?_
            refine lv_ishl C.1 C.2.1 dX12_pairs_147 ?_
            refine lv_iconst (v := -1) C.1 C.2.1 dX12_pairs_148 (by decide) ?_
            refine lv_ixor C.1 C.2.1 dX12_pairs_149 ?_
            refine lv_iand C.1 C.2.1 dX12_pairs_150 ?_
            obtain ⟨r151, e151, h⟩ := bnd h
            refine ald C G X (k := 408) kd_408 (ag_s e151).1 dX12_pairs_151 ?_
            rw [(ag_s e151).2]
            refine lv_iadd C.1 C.2.1 dX12_pairs_152 ?_
            refine lv_aload_n C.1 C.2.1 dX12_pairs_153 rfl (lv_at hl 0 rfl) ?_
            refine gfX12 C G X (k := 399) kd_399 20 (v := .ref (gB E + 408)) rfl rfl (by decide) k_1671 rfl dX12_pairs_154 ?_
            refine lv_iload_n C.1 C.2.1 dX12_pairs_157 rfl (lv_at hl 2 rfl) ?_
            obtain ⟨r158, e158, h⟩ := bnd h
            refine ald C G X (k := 408) kd_408 (ag_s e158).1 dX12_pairs_158 ?_
            rw [(ag_s e158).2]
            refine lv_icmp_ne (tgt := 166) C.1 C.2.1 dX12_pairs_159 (by decide) (fun c159 => ?_) (fun c159 => ?_)
            · replace h := ineg c159 h
              refine lv_iinc (v := (x6 + (-1))) (lv' := [(6, .int (x6 + (-1))), (0, .ref (gB E + 399)), (1, .int x1), (2, .int x2), (3, .int x3), (4, .int x4), (5, .int x5)]) C.1 C.2.1 dX12_pairs_166 hl (k := 6) rfl rfl (by decide) rfl (fun ls hl => ?_)
              refine lv_goto (tgt := 89) C.1 C.2.1 dX12_pairs_169 (by decide) ?_
              exact ih X (lv_sub hl [1, 2, 3, 4, 5, 6, 0] rfl) h
            · replace h := ipos c159 h
              refine lv_iload C.1 C.2.1 dX12_pairs_162 (lv_at hl 6 rfl) ?_
              refine lv_istore (lv' := [(5, .int x6), (0, .ref (gB E + 399)), (1, .int x1), (2, .int x2), (3, .int x3), (4, .int x4), (6, .int x6)]) C.1 C.2.1 dX12_pairs_164 hl (by decide) rfl (fun ls hl => ?_)
              refine lv_iinc (v := (x6 + (-1))) (lv' := [(6, .int (x6 + (-1))), (5, .int x6), (0, .ref (gB E + 399)), (1, .int x1), (2, .int x2), (3, .int x3), (4, .int x4)]) C.1 C.2.1 dX12_pairs_166 hl (k := 6) rfl rfl (by decide) rfl (fun ls hl => ?_)
              refine lv_goto (tgt := 89) C.1 C.2.1 dX12_pairs_169 (by decide) ?_
              exact ih X (lv_sub hl [2, 3, 4, 5, 6, 1, 0] rfl) h

set_option maxRecDepth 20000 in
theorem w_X12_pairs_58 {r : (Int32 × Mem)} (C : Cx p s m args meth c cX12_pairs (some .int) 7 RX12) (G : Gf E s) : ∀ (f : Nat) {x1 : Int32} {x2 : Int32} {σ : Mem} {ls : Array Slot} {H : Heap} {locs : List Loc}, Hx E σ s H locs → lv_has ls 7 [(0, .ref (gB E + 399)), (1, .int x1), (2, .int x2)] → X12_pairs_58 f x1 x2 σ = some r → W p l e (RM 6) s m args below meth c H locs 0 0 (QI E below args s r.1 r.2) (F0 m 58 ls []) := by
  intro f
  induction f with
  | zero =>
    intro x1 x2 σ ls H locs X hl h
    rw [X12_pairs_58] at h
    cases h
  | succ f ih =>
    intro x1 x2 σ ls H locs X hl h
    rw [X12_pairs_58] at h
    refine lv_iload_n C.1 C.2.1 dX12_pairs_58 rfl (lv_at hl 2 rfl) ?_
    refine lv_if_eq (tgt := 212) C.1 C.2.1 dX12_pairs_59 (by decide) (fun c59 => ?_) (fun c59 => ?_)
    · replace h := ipos c59 h
      refine lv_iconst (v := -1) C.1 C.2.1 dX12_pairs_212 (by decide) ?_
      rw [← Option.some.inj h]
      exact rtI C X dX12_pairs_213
    · replace h := ineg c59 h
      refine lv_iload_n C.1 C.2.1 dX12_pairs_62 rfl (lv_at hl 2 rfl) ?_
      obtain ⟨r63, e63, h⟩ := bnd h
      refine afI X (runS C G X q_X12_lowest k_2184 k_2183 (c_X12_lowest l E e63) rfl hl.1 rfl (Nat.le_of_ble_eq_true rfl) ⟨Nat.le_of_ble_eq_true rfl, Nat.le_of_ble_eq_true rfl⟩ ⟨Nat.le_of_ble_eq_true rfl, Nat.le_of_ble_eq_true rfl⟩ dX12_pairs_63) (fun H locs X => ?_)
      refine lv_istore_n (lv' := [(3, .int r63), (0, .ref (gB E + 399)), (1, .int x1), (2, .int x2)]) C.1 C.2.1 dX12_pairs_66 rfl hl (by decide) rfl (fun ls hl => ?_)
      refine lv_iload_n C.1 C.2.1 dX12_pairs_67 rfl (lv_at hl 3 rfl) ?_
      refine lv_iconst (v := 1) C.1 C.2.1 dX12_pairs_68 (by decide) ?_
      refine lv_iload_n C.1 C.2.1 dX12_pairs_69 rfl (lv_at hl 0 rfl) ?_
      refine lv_ishl C.1 C.2.1 dX12_pairs_70 ?_
      refine lv_iconst (v := -1) C.1 C.2.1 dX12_pairs_71 (by decide) ?_
      refine lv_ixor C.1 C.2.1 dX12_pairs_72 ?_
      refine lv_iand C.1 C.2.1 dX12_pairs_73 ?_
      obtain ⟨v74, e74, h⟩ := bnd h
      rw [Option.some.inj e74]
      refine lv_istore (lv' := [(4, .int v74), (3, .int r63), (0, .ref (gB E + 399)), (1, .int x1), (2, .int x2)]) C.1 C.2.1 dX12_pairs_74 hl (by decide) rfl (fun ls hl => ?_)
      refine lv_iconst (v := -1) C.1 C.2.1 dX12_pairs_76 (by decide) ?_
      refine lv_istore (lv' := [(5, .int (-1 : Int32)), (4, .int v74), (3, .int r63), (0, .ref (gB E + 399)), (1, .int x1), (2, .int x2)]) C.1 C.2.1 dX12_pairs_77 hl (by decide) rfl (fun ls hl => ?_)
      refine lv_aload_n C.1 C.2.1 dX12_pairs_79 rfl (lv_at hl 3 rfl) ?_
      refine gfX12 C G X (k := 399) kd_399 1 (v := .ref (gB E + 400)) rfl rfl (by decide) k_1652 rfl dX12_pairs_80 ?_
      refine lv_iconst (v := 4) C.1 C.2.1 dX12_pairs_83 (by decide) ?_
      obtain ⟨r84, e84, h⟩ := bnd h
      refine ald C G X (k := 400) kd_400 (ag_s e84).1 dX12_pairs_84 ?_
      rw [(ag_s e84).2]
      refine lv_iconst (v := 1) C.1 C.2.1 dX12_pairs_85 (by decide) ?_
      refine lv_isub C.1 C.2.1 dX12_pairs_86 ?_
      refine lv_istore (lv' := [(6, .int (r84 - (1 : Int32))), (5, .int (-1 : Int32)), (4, .int v74), (3, .int r63), (0, .ref (gB E + 399)), (1, .int x1), (2, .int x2)]) C.1 C.2.1 dX12_pairs_87 hl (by decide) rfl (fun ls hl => ?_)
      exact w_X12_pairs_89 C G ih FU X (lv_sub hl [4, 5, 6, 3, 2, 1, 0] rfl) h

set_option maxRecDepth 20000 in
theorem w_X12_pairs_19 {r : (Int32 × Mem)} {σ : Mem} {x1 : Int32} {y1 : Int32} {ls : Array Slot} {H : Heap} {locs : List Loc} (C : Cx p s m args meth c cX12_pairs (some .int) 7 RX12) (G : Gf E s) (X : Hx E σ s H locs) (hl : lv_has ls 7 [(0, .ref (gB E + 399)), (1, .int x1)]) (h : X12_pairs_19 x1 y1 σ = some r) : W p l e (RM 6) s m args below meth c H locs 0 0 (QI E below args s r.1 r.2) (F0 m 19 ls [.int y1, .ref (gB E + 399)]) := by
  rw [X12_pairs_19] at h
  obtain ⟨σ19, e19, h⟩ := bnd h
  refine pfX12 C G X (k := 399) kd_399 0 (x := y1) (ty := .int) rfl rfl (Nat.le_of_ble_eq_true rfl) (by decide) k_1651 rfl rfl (by decide +kernel) rfl rfl dX12_pairs_19 (fun H locs X => ?_)
  replace X := pu_x e19 X
  refine lv_aload_n C.1 C.2.1 dX12_pairs_22 rfl (lv_at hl 0 rfl) ?_
  refine gfX12 C G X (k := 399) kd_399 0 (v := .int (σ19 399 0)) rfl rfl (by decide) k_1651 rfl dX12_pairs_23 ?_
  refine lv_if_le (tgt := 31) C.1 C.2.1 dX12_pairs_26 (by decide) (fun c26 => ?_) (fun c26 => ?_)
  · replace h := ipos c26 h
    refine lv_aload_n C.1 C.2.1 dX12_pairs_31 rfl (lv_at hl 0 rfl) ?_
    obtain ⟨σ32, e32, h⟩ := bnd h
    refine afV X (runV C G X q_X12_allBest k_2181 kp_95 k_2179 (rcX12 G X kd_399) (c_X12_allBest l E e32) rfl hl.1 rfl (Nat.le_of_ble_eq_true rfl) ⟨Nat.le_of_ble_eq_true rfl, Nat.le_of_ble_eq_true rfl⟩ ⟨Nat.le_of_ble_eq_true rfl, Nat.le_of_ble_eq_true rfl⟩ dX12_pairs_32) (fun H locs X => ?_)
    refine lv_iconst (v := 1) C.1 C.2.1 dX12_pairs_35 (by decide) ?_
    refine lv_aload_n C.1 C.2.1 dX12_pairs_36 rfl (lv_at hl 0 rfl) ?_
    refine gfX12 C G X (k := 399) kd_399 1 (v := .ref (gB E + 400)) rfl rfl (by decide) k_1652 rfl dX12_pairs_37 ?_
    refine lv_iconst (v := 4) C.1 C.2.1 dX12_pairs_40 (by decide) ?_
    obtain ⟨r41, e41, h⟩ := bnd h
    refine ald C G X (k := 400) kd_400 (ag_s e41).1 dX12_pairs_41 ?_
    rw [(ag_s e41).2]
    refine lv_ishl C.1 C.2.1 dX12_pairs_42 ?_
    refine lv_iconst (v := 1) C.1 C.2.1 dX12_pairs_43 (by decide) ?_
    refine lv_isub C.1 C.2.1 dX12_pairs_44 ?_
    refine lv_istore_n (lv' := [(2, .int (((1 : Int32) <<< (r41 &&& 31)) - (1 : Int32))), (0, .ref (gB E + 399)), (1, .int x1)]) C.1 C.2.1 dX12_pairs_45 rfl hl (by decide) rfl (fun ls hl => ?_)
    refine lv_iload_n C.1 C.2.1 dX12_pairs_46 rfl (lv_at hl 2 rfl) ?_
    refine lv_iconst (v := -1) C.1 C.2.1 dX12_pairs_47 (by decide) ?_
    refine lv_icmp_ne (tgt := 58) C.1 C.2.1 dX12_pairs_48 (by decide) (fun c48 => ?_) (fun c48 => ?_)
    · replace h := ineg c48 h
      exact w_X12_pairs_58 C G FU X (lv_sub hl [1, 2, 0] rfl) h
    · replace h := ipos c48 h
      refine lv_aload_n C.1 C.2.1 dX12_pairs_51 rfl (lv_at hl 1 rfl) ?_
      refine gfX12 C G X (k := 399) kd_399 20 (v := .ref (gB E + 408)) rfl rfl (by decide) k_1671 rfl dX12_pairs_52 ?_
      refine lv_iload_n C.1 C.2.1 dX12_pairs_55 rfl (lv_at hl 0 rfl) ?_
      obtain ⟨r56, e56, h⟩ := bnd h
      refine ald C G X (k := 408) kd_408 (ag_s e56).1 dX12_pairs_56 ?_
      rw [(ag_s e56).2]
      rw [← Option.some.inj h]
      exact rtI C X dX12_pairs_57
  · replace h := ineg c26 h
    refine lv_iconst (v := 0) C.1 C.2.1 dX12_pairs_29 (by decide) ?_
    rw [← Option.some.inj h]
    exact rtI C X dX12_pairs_30

set_option maxRecDepth 20000 in
theorem w_X12_pairs_18 {r : (Int32 × Mem)} {σ : Mem} {x1 : Int32} {ls : Array Slot} {H : Heap} {locs : List Loc} (C : Cx p s m args meth c cX12_pairs (some .int) 7 RX12) (G : Gf E s) (X : Hx E σ s H locs) (hl : lv_has ls 7 [(0, .ref (gB E + 399)), (1, .int x1)]) (h : X12_pairs_18 x1 σ = some r) : W p l e (RM 6) s m args below meth c H locs 0 0 (QI E below args s r.1 r.2) (F0 m 18 ls [.ref (gB E + 399)]) := by
  rw [X12_pairs_18] at h
  refine lv_iconst (v := 0) C.1 C.2.1 dX12_pairs_18 (by decide) ?_
  exact w_X12_pairs_19 C G X (lv_sub hl [0, 1] rfl) h

set_option maxRecDepth 20000 in
theorem w_X12_pairs {r : (Int32 × Mem)} {σ : Mem} {x1 : Int32} {ls : Array Slot} {H : Heap} {locs : List Loc} (C : Cx p s m args meth c cX12_pairs (some .int) 7 RX12) (G : Gf E s) (X : Hx E σ s H locs) (hl : lv_has ls 7 [(0, .ref (gB E + 399)), (1, .int x1)]) (h : X12_pairs x1 σ = some r) : W p l e (RM 6) s m args below meth c H locs 0 0 (QI E below args s r.1 r.2) (F0 m 0 ls []) := by
  rw [X12_pairs] at h
  refine lv_aload_n C.1 C.2.1 dX12_pairs_0 rfl (lv_at hl 0 rfl) ?_
  refine lv_iload_n C.1 C.2.1 dX12_pairs_1 rfl (lv_at hl 1 rfl) ?_
  refine lv_iconst (v := -1) C.1 C.2.1 dX12_pairs_2 (by decide) ?_
  refine lv_icmp_eq (tgt := 18) C.1 C.2.1 dX12_pairs_3 (by decide) (fun c3 => ?_) (fun c3 => ?_)
  · replace h := ipos c3 h
    exact w_X12_pairs_18 C G X (lv_sub hl [0, 1] rfl) h
  · replace h := ineg c3 h
    refine lv_aload_n C.1 C.2.1 dX12_pairs_6 rfl (lv_at hl 0 rfl) ?_
    refine lv_iload_n C.1 C.2.1 dX12_pairs_7 rfl (lv_at hl 1 rfl) ?_
    obtain ⟨r8, e8, h⟩ := bnd h
    refine afI X (runV C G X q_X12_isWalker k_1977 kp_72 k_1975 (rcX12 G X kd_399) (c_X12_isWalker l E e8) rfl hl.1 rfl (Nat.le_of_ble_eq_true rfl) ⟨Nat.le_of_ble_eq_true rfl, Nat.le_of_ble_eq_true rfl⟩ ⟨Nat.le_of_ble_eq_true rfl, Nat.le_of_ble_eq_true rfl⟩ dX12_pairs_8) (fun H locs X => ?_)
    refine lv_if_ne (tgt := 18) C.1 C.2.1 dX12_pairs_11 (by decide) (fun c11 => ?_) (fun c11 => ?_)
    · replace h := ineg c11 h
      exact w_X12_pairs_18 C G X (lv_sub hl [0, 1] rfl) h
    · replace h := ipos c11 h
      refine lv_iconst (v := 1) C.1 C.2.1 dX12_pairs_14 (by decide) ?_
      refine lv_goto (tgt := 19) C.1 C.2.1 dX12_pairs_15 (by decide) ?_
      exact w_X12_pairs_19 C G X (lv_sub hl [0, 1] rfl) h

theorem c_X12_pairs (l : Launch) (E : GE) {σ : Mem} {x1 : Int32} {r : (Int32 × Mem)} (h : X12_pairs x1 σ = some r) : CtI l E yX12_pairs cX12_pairs 7 .int 6 [.ref (gB E + 399), .int x1] σ r.1 r.2 := by
  refine Met.ofW (cc := cX12_pairs) (maxL := 7) (ret := (some .int)) (by decide) rfl ?_
  intro p e s m args below meth c s₁ B hml hv
  obtain ⟨rfl, G, X⟩ := start hv
  have C := cxof B hml
  have hl := lv_entry [.ref (gB E + 399), .int x1] (n := 7) (Nat.le_of_ble_eq_true rfl)
  rw [lg_entry_eq]
  generalize (lg_sl [.ref (gB E + 399), .int x1] ++ List.replicate (7 - (lg_sl [.ref (gB E + 399), .int x1]).length) Slot.unset).toArray = ls at hl ⊢
  exact w_X12_pairs C G X hl h

set_option maxRecDepth 20000 in
theorem w_X12_isRow {r : Int32} {σ : Mem} {x1 : Int32} {ls : Array Slot} {H : Heap} {locs : List Loc} (C : Cx p s m args meth c cX12_isRow (some .boolean) 2 RX12) (G : Gf E s) (X : Hx E σ s H locs) (hl : lv_has ls 2 [(0, .ref (gB E + 399)), (1, .int x1)]) (h : X12_isRow σ x1 = some r) : W p l e (RM 2) s m args below meth c H locs 0 0 (QI E below args s r σ) (F0 m 0 ls []) := by
  rw [X12_isRow] at h
  refine lv_aload_n C.1 C.2.1 dX12_isRow_0 rfl (lv_at hl 0 rfl) ?_
  refine gfX12 C G X (k := 399) kd_399 7 (v := .ref (gB E + 404)) rfl rfl (by decide) k_1658 rfl dX12_isRow_1 ?_
  refine lv_iload_n C.1 C.2.1 dX12_isRow_4 rfl (lv_at hl 1 rfl) ?_
  obtain ⟨r5, e5, h⟩ := bnd h
  refine ald C G X (k := 404) kd_404 (ag_s e5).1 dX12_isRow_5 ?_
  rw [(ag_s e5).2]
  refine lv_aload_n C.1 C.2.1 dX12_isRow_6 rfl (lv_at hl 0 rfl) ?_
  refine gfX12 C G X (k := 399) kd_399 1 (v := .ref (gB E + 400)) rfl rfl (by decide) k_1652 rfl dX12_isRow_7 ?_
  refine lv_iconst (v := 4) C.1 C.2.1 dX12_isRow_10 (by decide) ?_
  obtain ⟨r11, e11, h⟩ := bnd h
  refine ald C G X (k := 400) kd_400 (ag_s e11).1 dX12_isRow_11 ?_
  rw [(ag_s e11).2]
  refine lv_icmp_ge (tgt := 44) C.1 C.2.1 dX12_isRow_12 (by decide) (fun c12 => ?_) (fun c12 => ?_)
  · replace h := ipos c12 h
    refine lv_iconst (v := 0) C.1 C.2.1 dX12_isRow_44 (by decide) ?_
    obtain ⟨u45, z45, h⟩ := bnd h
    rw [← Option.some.inj h]
    exact rtZ C X (gb_s z45) dX12_isRow_45
  · replace h := ineg c12 h
    refine lv_aload_n C.1 C.2.1 dX12_isRow_15 rfl (lv_at hl 0 rfl) ?_
    refine gfX12 C G X (k := 399) kd_399 7 (v := .ref (gB E + 404)) rfl rfl (by decide) k_1658 rfl dX12_isRow_16 ?_
    refine lv_iload_n C.1 C.2.1 dX12_isRow_19 rfl (lv_at hl 1 rfl) ?_
    refine lv_iconst (v := 1) C.1 C.2.1 dX12_isRow_20 (by decide) ?_
    refine lv_iadd C.1 C.2.1 dX12_isRow_21 ?_
    obtain ⟨r22, e22, h⟩ := bnd h
    refine ald C G X (k := 404) kd_404 (ag_s e22).1 dX12_isRow_22 ?_
    rw [(ag_s e22).2]
    refine lv_aload_n C.1 C.2.1 dX12_isRow_23 rfl (lv_at hl 0 rfl) ?_
    refine gfX12 C G X (k := 399) kd_399 1 (v := .ref (gB E + 400)) rfl rfl (by decide) k_1652 rfl dX12_isRow_24 ?_
    refine lv_iconst (v := 3) C.1 C.2.1 dX12_isRow_27 (by decide) ?_
    obtain ⟨r28, e28, h⟩ := bnd h
    refine ald C G X (k := 400) kd_400 (ag_s e28).1 dX12_isRow_28 ?_
    rw [(ag_s e28).2]
    refine lv_icmp_ge (tgt := 44) C.1 C.2.1 dX12_isRow_29 (by decide) (fun c29 => ?_) (fun c29 => ?_)
    · replace h := ipos c29 h
      refine lv_iconst (v := 0) C.1 C.2.1 dX12_isRow_44 (by decide) ?_
      obtain ⟨u45, z45, h⟩ := bnd h
      rw [← Option.some.inj h]
      exact rtZ C X (gb_s z45) dX12_isRow_45
    · replace h := ineg c29 h
      refine lv_aload_n C.1 C.2.1 dX12_isRow_32 rfl (lv_at hl 0 rfl) ?_
      refine gfX12 C G X (k := 399) kd_399 7 (v := .ref (gB E + 404)) rfl rfl (by decide) k_1658 rfl dX12_isRow_33 ?_
      refine lv_iload_n C.1 C.2.1 dX12_isRow_36 rfl (lv_at hl 1 rfl) ?_
      refine lv_iconst (v := 2) C.1 C.2.1 dX12_isRow_37 (by decide) ?_
      refine lv_iadd C.1 C.2.1 dX12_isRow_38 ?_
      obtain ⟨r39, e39, h⟩ := bnd h
      refine ald C G X (k := 404) kd_404 (ag_s e39).1 dX12_isRow_39 ?_
      rw [(ag_s e39).2]
      refine lv_iconst (v := 1) C.1 C.2.1 dX12_isRow_40 (by decide) ?_
      refine lv_icmp_le (tgt := 46) C.1 C.2.1 dX12_isRow_41 (by decide) (fun c41 => ?_) (fun c41 => ?_)
      · replace h := ipos c41 h
        refine lv_aload_n C.1 C.2.1 dX12_isRow_46 rfl (lv_at hl 0 rfl) ?_
        refine lv_aload_n C.1 C.2.1 dX12_isRow_47 rfl (lv_at hl 0 rfl) ?_
        refine gfX12 C G X (k := 399) kd_399 7 (v := .ref (gB E + 404)) rfl rfl (by decide) k_1658 rfl dX12_isRow_48 ?_
        refine lv_iload_n C.1 C.2.1 dX12_isRow_51 rfl (lv_at hl 1 rfl) ?_
        refine lv_iconst (v := 1) C.1 C.2.1 dX12_isRow_52 (by decide) ?_
        refine lv_iadd C.1 C.2.1 dX12_isRow_53 ?_
        obtain ⟨r54, e54, h⟩ := bnd h
        refine ald C G X (k := 404) kd_404 (ag_s e54).1 dX12_isRow_54 ?_
        rw [(ag_s e54).2]
        refine lv_iconst (v := 2) C.1 C.2.1 dX12_isRow_55 (by decide) ?_
        obtain ⟨r56, e56, h⟩ := bnd h
        refine afI X (runV C G X q_X12_of k_1855 kp_49 k_1853 (rcX12 G X kd_399) (c_X12_of l E e56) rfl hl.1 rfl (Nat.le_of_ble_eq_true rfl) ⟨Nat.le_of_ble_eq_true rfl, Nat.le_of_ble_eq_true rfl⟩ ⟨Nat.le_of_ble_eq_true rfl, Nat.le_of_ble_eq_true rfl⟩ dX12_isRow_56) (fun H locs X => ?_)
        refine lv_iconst (v := -1) C.1 C.2.1 dX12_isRow_59 (by decide) ?_
        refine lv_icmp_eq (tgt := 89) C.1 C.2.1 dX12_isRow_60 (by decide) (fun c60 => ?_) (fun c60 => ?_)
        · replace h := ipos c60 h
          refine lv_iconst (v := 0) C.1 C.2.1 dX12_isRow_89 (by decide) ?_
          obtain ⟨u90, z90, h⟩ := bnd h
          rw [← Option.some.inj h]
          exact rtZ C X (gb_s z90) dX12_isRow_90
        · replace h := ineg c60 h
          refine lv_aload_n C.1 C.2.1 dX12_isRow_63 rfl (lv_at hl 0 rfl) ?_
          refine lv_aload_n C.1 C.2.1 dX12_isRow_64 rfl (lv_at hl 0 rfl) ?_
          refine gfX12 C G X (k := 399) kd_399 7 (v := .ref (gB E + 404)) rfl rfl (by decide) k_1658 rfl dX12_isRow_65 ?_
          refine lv_iload_n C.1 C.2.1 dX12_isRow_68 rfl (lv_at hl 1 rfl) ?_
          refine lv_iconst (v := 1) C.1 C.2.1 dX12_isRow_69 (by decide) ?_
          refine lv_iadd C.1 C.2.1 dX12_isRow_70 ?_
          obtain ⟨r71, e71, h⟩ := bnd h
          refine ald C G X (k := 404) kd_404 (ag_s e71).1 dX12_isRow_71 ?_
          rw [(ag_s e71).2]
          refine lv_iconst (v := 2) C.1 C.2.1 dX12_isRow_72 (by decide) ?_
          obtain ⟨r73, e73, h⟩ := bnd h
          refine afI X (runV C G X q_X12_of k_1855 kp_49 k_1853 (rcX12 G X kd_399) (c_X12_of l E e73) rfl hl.1 rfl (Nat.le_of_ble_eq_true rfl) ⟨Nat.le_of_ble_eq_true rfl, Nat.le_of_ble_eq_true rfl⟩ ⟨Nat.le_of_ble_eq_true rfl, Nat.le_of_ble_eq_true rfl⟩ dX12_isRow_73) (fun H locs X => ?_)
          refine lv_aload_n C.1 C.2.1 dX12_isRow_76 rfl (lv_at hl 0 rfl) ?_
          refine gfX12 C G X (k := 399) kd_399 7 (v := .ref (gB E + 404)) rfl rfl (by decide) k_1658 rfl dX12_isRow_77 ?_
          refine lv_iload_n C.1 C.2.1 dX12_isRow_80 rfl (lv_at hl 1 rfl) ?_
          obtain ⟨r81, e81, h⟩ := bnd h
          refine ald C G X (k := 404) kd_404 (ag_s e81).1 dX12_isRow_81 ?_
          rw [(ag_s e81).2]
          refine lv_icmp_eq (tgt := 89) C.1 C.2.1 dX12_isRow_82 (by decide) (fun c82 => ?_) (fun c82 => ?_)
          · replace h := ipos c82 h
            refine lv_iconst (v := 0) C.1 C.2.1 dX12_isRow_89 (by decide) ?_
            obtain ⟨u90, z90, h⟩ := bnd h
            rw [← Option.some.inj h]
            exact rtZ C X (gb_s z90) dX12_isRow_90
          · replace h := ineg c82 h
            refine lv_iconst (v := 1) C.1 C.2.1 dX12_isRow_85 (by decide) ?_
            refine lv_goto (tgt := 90) C.1 C.2.1 dX12_isRow_86 (by decide) ?_
            obtain ⟨u90, z90, h⟩ := bnd h
            rw [← Option.some.inj h]
            exact rtZ C X (gb_s z90) dX12_isRow_90
      · replace h := ineg c41 h
        refine lv_iconst (v := 0) C.1 C.2.1 dX12_isRow_44 (by decide) ?_
        obtain ⟨u45, z45, h⟩ := bnd h
        rw [← Option.some.inj h]
        exact rtZ C X (gb_s z45) dX12_isRow_45

theorem c_X12_isRow (l : Launch) (E : GE) {σ : Mem} {x1 : Int32} {r : Int32} (h : X12_isRow σ x1 = some r) : CtI l E yX12_isRow cX12_isRow 2 .boolean 2 [.ref (gB E + 399), .int x1] σ r σ := by
  refine Met.ofW (cc := cX12_isRow) (maxL := 2) (ret := (some .boolean)) (by decide) rfl ?_
  intro p e s m args below meth c s₁ B hml hv
  obtain ⟨rfl, G, X⟩ := start hv
  have C := cxof B hml
  have hl := lv_entry [.ref (gB E + 399), .int x1] (n := 2) (Nat.le_of_ble_eq_true rfl)
  rw [lg_entry_eq]
  generalize (lg_sl [.ref (gB E + 399), .int x1] ++ List.replicate (2 - (lg_sl [.ref (gB E + 399), .int x1]).length) Slot.unset).toArray = ls at hl ⊢
  exact w_X12_isRow C G X hl h

set_option maxRecDepth 20000 in
theorem w_X12_learnt_158 {r : (Int32 × Mem)} {σ : Mem} {rc78 : Int32 → Int32 → Int32 → Mem → Option (Int32 × Mem)} {rc91 : Int32 → Int32 → Int32 → Int32 → Int32 → Mem → Option (Int32 × Mem)} {x1 : Int32} {x3 : Int32} {x4 : Int32} {x6 : Int32} {y0 : Int32} {ls : Array Slot} {H : Heap} {locs : List Loc} (C : Cx p s m args meth c cX12_learnt (some .int) 7 RX12) (G : Gf E s) (hr78 : ∀ {x1 : Int32} {x3 : Int32} {x4 : Int32} {σ : Mem} {ls : Array Slot} {H : Heap} {locs : List Loc}, Hx E σ s H locs → lv_has ls 7 [(0, .ref (gB E + 399)), (1, .int x1), (3, .int x3), (4, .int x4)] → rc78 x1 x3 x4 σ = some r → W p l e (RM 3) s m args below meth c H locs 0 0 (QI E below args s r.1 r.2) (F0 m 78 ls [])) (hr91 : ∀ {x1 : Int32} {x3 : Int32} {x4 : Int32} {x5 : Int32} {x6 : Int32} {σ : Mem} {ls : Array Slot} {H : Heap} {locs : List Loc}, Hx E σ s H locs → lv_has ls 7 [(0, .ref (gB E + 399)), (1, .int x1), (3, .int x3), (4, .int x4), (5, .int x5), (6, .int x6)] → rc91 x1 x3 x4 x5 x6 σ = some r → W p l e (RM 3) s m args below meth c H locs 0 0 (QI E below args s r.1 r.2) (F0 m 91 ls [])) (X : Hx E σ s H locs) (hl : lv_has ls 7 [(0, .ref (gB E + 399)), (1, .int x1), (3, .int x3), (4, .int x4), (6, .int x6)]) (h : X12_learnt_158 rc78 rc91 x1 x3 x4 x6 y0 σ = some r) : W p l e (RM 3) s m args below meth c H locs 0 0 (QI E below args s r.1 r.2) (F0 m 158 ls [.int y0]) := by
  rw [X12_learnt_158] at h
  refine lv_istore (lv' := [(5, .int y0), (0, .ref (gB E + 399)), (1, .int x1), (3, .int x3), (4, .int x4), (6, .int x6)]) C.1 C.2.1 dX12_learnt_158 hl (by decide) rfl (fun ls hl => ?_)
  refine lv_iinc (v := (x6 + 3)) (lv' := [(6, .int (x6 + 3)), (5, .int y0), (0, .ref (gB E + 399)), (1, .int x1), (3, .int x3), (4, .int x4)]) C.1 C.2.1 dX12_learnt_160 hl (k := 5) rfl rfl (by decide) rfl (fun ls hl => ?_)
  refine lv_goto (tgt := 91) C.1 C.2.1 dX12_learnt_163 (by decide) ?_
  exact hr91 X (lv_sub hl [2, 3, 4, 5, 1, 0] rfl) h

set_option maxRecDepth 20000 in
theorem w_X12_learnt_150 {r : (Int32 × Mem)} {σ : Mem} {rc78 : Int32 → Int32 → Int32 → Mem → Option (Int32 × Mem)} {rc91 : Int32 → Int32 → Int32 → Int32 → Int32 → Mem → Option (Int32 × Mem)} {x1 : Int32} {x3 : Int32} {x4 : Int32} {x6 : Int32} {y0 : Int32} {y1 : Int32} {ls : Array Slot} {H : Heap} {locs : List Loc} (C : Cx p s m args meth c cX12_learnt (some .int) 7 RX12) (G : Gf E s) (hr78 : ∀ {x1 : Int32} {x3 : Int32} {x4 : Int32} {σ : Mem} {ls : Array Slot} {H : Heap} {locs : List Loc}, Hx E σ s H locs → lv_has ls 7 [(0, .ref (gB E + 399)), (1, .int x1), (3, .int x3), (4, .int x4)] → rc78 x1 x3 x4 σ = some r → W p l e (RM 3) s m args below meth c H locs 0 0 (QI E below args s r.1 r.2) (F0 m 78 ls [])) (hr91 : ∀ {x1 : Int32} {x3 : Int32} {x4 : Int32} {x5 : Int32} {x6 : Int32} {σ : Mem} {ls : Array Slot} {H : Heap} {locs : List Loc}, Hx E σ s H locs → lv_has ls 7 [(0, .ref (gB E + 399)), (1, .int x1), (3, .int x3), (4, .int x4), (5, .int x5), (6, .int x6)] → rc91 x1 x3 x4 x5 x6 σ = some r → W p l e (RM 3) s m args below meth c H locs 0 0 (QI E below args s r.1 r.2) (F0 m 91 ls [])) (X : Hx E σ s H locs) (hl : lv_has ls 7 [(0, .ref (gB E + 399)), (1, .int x1), (3, .int x3), (4, .int x4), (6, .int x6)]) (h : X12_learnt_150 rc78 rc91 x1 x3 x4 x6 y0 y1 σ = some r) : W p l e (RM 3) s m args below meth c H locs 0 0 (QI E below args s r.1 r.2) (F0 m 150 ls [.int y1, .int y0]) := by
  rw [X12_learnt_150] at h
  refine lv_icmp_ne (tgt := 157) C.1 C.2.1 dX12_learnt_150 (by decide) (fun c150 => ?_) (fun c150 => ?_)
  · replace h := ineg c150 h
    refine lv_iconst (v := 0) C.1 C.2.1 dX12_learnt_157 (by decide) ?_
    exact w_X12_learnt_158 C G hr78 hr91 X (lv_sub hl [0, 1, 2, 3, 4] rfl) h
  · replace h := ipos c150 h
    refine lv_iconst (v := 1) C.1 C.2.1 dX12_learnt_153 (by decide) ?_
    refine lv_goto (tgt := 158) C.1 C.2.1 dX12_learnt_154 (by decide) ?_
    exact w_X12_learnt_158 C G hr78 hr91 X (lv_sub hl [0, 1, 2, 3, 4] rfl) h

set_option maxRecDepth 20000 in
theorem w_X12_learnt_132 {r : (Int32 × Mem)} {σ : Mem} {rc78 : Int32 → Int32 → Int32 → Mem → Option (Int32 × Mem)} {rc91 : Int32 → Int32 → Int32 → Int32 → Int32 → Mem → Option (Int32 × Mem)} {x1 : Int32} {x3 : Int32} {x4 : Int32} {x6 : Int32} {y0 : Int32} {ls : Array Slot} {H : Heap} {locs : List Loc} (C : Cx p s m args meth c cX12_learnt (some .int) 7 RX12) (G : Gf E s) (hr78 : ∀ {x1 : Int32} {x3 : Int32} {x4 : Int32} {σ : Mem} {ls : Array Slot} {H : Heap} {locs : List Loc}, Hx E σ s H locs → lv_has ls 7 [(0, .ref (gB E + 399)), (1, .int x1), (3, .int x3), (4, .int x4)] → rc78 x1 x3 x4 σ = some r → W p l e (RM 3) s m args below meth c H locs 0 0 (QI E below args s r.1 r.2) (F0 m 78 ls [])) (hr91 : ∀ {x1 : Int32} {x3 : Int32} {x4 : Int32} {x5 : Int32} {x6 : Int32} {σ : Mem} {ls : Array Slot} {H : Heap} {locs : List Loc}, Hx E σ s H locs → lv_has ls 7 [(0, .ref (gB E + 399)), (1, .int x1), (3, .int x3), (4, .int x4), (5, .int x5), (6, .int x6)] → rc91 x1 x3 x4 x5 x6 σ = some r → W p l e (RM 3) s m args below meth c H locs 0 0 (QI E below args s r.1 r.2) (F0 m 91 ls [])) (X : Hx E σ s H locs) (hl : lv_has ls 7 [(0, .ref (gB E + 399)), (1, .int x1), (3, .int x3), (4, .int x4), (6, .int x6)]) (h : X12_learnt_132 rc78 rc91 x1 x3 x4 x6 y0 σ = some r) : W p l e (RM 3) s m args below meth c H locs 0 0 (QI E below args s r.1 r.2) (F0 m 132 ls [.int y0]) := by
  rw [X12_learnt_132] at h
  refine lv_aload_n C.1 C.2.1 dX12_learnt_132 rfl (lv_at hl 0 rfl) ?_
  refine gfX12 C G X (k := 399) kd_399 7 (v := .ref (gB E + 404)) rfl rfl (by decide) k_1658 rfl dX12_learnt_133 ?_
  refine lv_iload C.1 C.2.1 dX12_learnt_136 (lv_at hl 4 rfl) ?_
  refine lv_iconst (v := 2) C.1 C.2.1 dX12_learnt_138 (by decide) ?_
  refine lv_iadd C.1 C.2.1 dX12_learnt_139 ?_
  obtain ⟨r140, e140, h⟩ := bnd h
  refine ald C G X (k := 404) kd_404 (ag_s e140).1 dX12_learnt_140 ?_
  rw [(ag_s e140).2]
  refine lv_iconst (v := 1) C.1 C.2.1 dX12_learnt_141 (by decide) ?_
  refine lv_icmp_ne (tgt := 149) C.1 C.2.1 dX12_learnt_142 (by decide) (fun c142 => ?_) (fun c142 => ?_)
  · replace h := ineg c142 h
    refine lv_iconst (v := 0) C.1 C.2.1 dX12_learnt_149 (by decide) ?_
    exact w_X12_learnt_150 C G hr78 hr91 X (lv_sub hl [0, 1, 2, 3, 4] rfl) h
  · replace h := ipos c142 h
    refine lv_iconst (v := 1) C.1 C.2.1 dX12_learnt_145 (by decide) ?_
    refine lv_goto (tgt := 150) C.1 C.2.1 dX12_learnt_146 (by decide) ?_
    exact w_X12_learnt_150 C G hr78 hr91 X (lv_sub hl [0, 1, 2, 3, 4] rfl) h

set_option maxRecDepth 20000 in
theorem w_X12_learnt_180 {r : (Int32 × Mem)} {σ : Mem} {rc78 : Int32 → Int32 → Int32 → Mem → Option (Int32 × Mem)} {x1 : Int32} {x4 : Int32} {y0 : Int32} {y1 : Int32} {ls : Array Slot} {H : Heap} {locs : List Loc} (C : Cx p s m args meth c cX12_learnt (some .int) 7 RX12) (G : Gf E s) (hr78 : ∀ {x1 : Int32} {x3 : Int32} {x4 : Int32} {σ : Mem} {ls : Array Slot} {H : Heap} {locs : List Loc}, Hx E σ s H locs → lv_has ls 7 [(0, .ref (gB E + 399)), (1, .int x1), (3, .int x3), (4, .int x4)] → rc78 x1 x3 x4 σ = some r → W p l e (RM 3) s m args below meth c H locs 0 0 (QI E below args s r.1 r.2) (F0 m 78 ls [])) (X : Hx E σ s H locs) (hl : lv_has ls 7 [(0, .ref (gB E + 399)), (1, .int x1), (4, .int x4)]) (h : X12_learnt_180 rc78 x1 x4 y0 y1 σ = some r) : W p l e (RM 3) s m args below meth c H locs 0 0 (QI E below args s r.1 r.2) (F0 m 180 ls [.int y1, .int y0]) := by
  rw [X12_learnt_180] at h
  refine lv_ior C.1 C.2.1 dX12_learnt_180 ?_
  refine lv_istore_n (lv' := [(3, .int (y0 ||| y1)), (0, .ref (gB E + 399)), (1, .int x1), (4, .int x4)]) C.1 C.2.1 dX12_learnt_181 rfl hl (by decide) rfl (fun ls hl => ?_)
  refine lv_iinc (v := (x4 + 1)) (lv' := [(4, .int (x4 + 1)), (3, .int (y0 ||| y1)), (0, .ref (gB E + 399)), (1, .int x1)]) C.1 C.2.1 dX12_learnt_182 hl (k := 3) rfl rfl (by decide) rfl (fun ls hl => ?_)
  refine lv_goto (tgt := 78) C.1 C.2.1 dX12_learnt_185 (by decide) ?_
  exact hr78 X (lv_sub hl [2, 3, 1, 0] rfl) h

set_option maxRecDepth 20000 in
theorem w_X12_learnt_166 {r : (Int32 × Mem)} {σ : Mem} {rc78 : Int32 → Int32 → Int32 → Mem → Option (Int32 × Mem)} {x1 : Int32} {x3 : Int32} {x4 : Int32} {x5 : Int32} {ls : Array Slot} {H : Heap} {locs : List Loc} (C : Cx p s m args meth c cX12_learnt (some .int) 7 RX12) (G : Gf E s) (hr78 : ∀ {x1 : Int32} {x3 : Int32} {x4 : Int32} {σ : Mem} {ls : Array Slot} {H : Heap} {locs : List Loc}, Hx E σ s H locs → lv_has ls 7 [(0, .ref (gB E + 399)), (1, .int x1), (3, .int x3), (4, .int x4)] → rc78 x1 x3 x4 σ = some r → W p l e (RM 3) s m args below meth c H locs 0 0 (QI E below args s r.1 r.2) (F0 m 78 ls [])) (X : Hx E σ s H locs) (hl : lv_has ls 7 [(0, .ref (gB E + 399)), (1, .int x1), (3, .int x3), (4, .int x4), (5, .int x5)]) (h : X12_learnt_166 rc78 x1 x3 x4 x5 σ = some r) : W p l e (RM 3) s m args below meth c H locs 0 0 (QI E below args s r.1 r.2) (F0 m 166 ls []) := by
  rw [X12_learnt_166] at h
  refine lv_iload_n C.1 C.2.1 dX12_learnt_166 rfl (lv_at hl 2 rfl) ?_
  refine lv_iload C.1 C.2.1 dX12_learnt_167 (lv_at hl 4 rfl) ?_
  refine lv_if_eq (tgt := 179) C.1 C.2.1 dX12_learnt_169 (by decide) (fun c169 => ?_) (fun c169 => ?_)
  · replace h := ipos c169 h
    refine lv_iconst (v := 0) C.1 C.2.1 dX12_learnt_179 (by decide) ?_
    exact w_X12_learnt_180 C G hr78 X (lv_sub hl [0, 1, 3] rfl) h
  · replace h := ineg c169 h
    refine lv_iconst (v := 1) C.1 C.2.1 dX12_learnt_172 (by decide) ?_
    refine lv_iload C.1 C.2.1 dX12_learnt_173 (lv_at hl 3 rfl) ?_
    refine lv_ishl C.1 C.2.1 dX12_learnt_175 ?_
    refine lv_goto (tgt := 180) C.1 C.2.1 dX12_learnt_176 (by decide) ?_
    exact w_X12_learnt_180 C G hr78 X (lv_sub hl [0, 1, 3] rfl) h

set_option maxRecDepth 20000 in
theorem w_X12_learnt_91 {r : (Int32 × Mem)} {rc78 : Int32 → Int32 → Int32 → Mem → Option (Int32 × Mem)} (C : Cx p s m args meth c cX12_learnt (some .int) 7 RX12) (G : Gf E s) (hr78 : ∀ {x1 : Int32} {x3 : Int32} {x4 : Int32} {σ : Mem} {ls : Array Slot} {H : Heap} {locs : List Loc}, Hx E σ s H locs → lv_has ls 7 [(0, .ref (gB E + 399)), (1, .int x1), (3, .int x3), (4, .int x4)] → rc78 x1 x3 x4 σ = some r → W p l e (RM 3) s m args below meth c H locs 0 0 (QI E below args s r.1 r.2) (F0 m 78 ls [])) : ∀ (f : Nat) {x1 : Int32} {x3 : Int32} {x4 : Int32} {x5 : Int32} {x6 : Int32} {σ : Mem} {ls : Array Slot} {H : Heap} {locs : List Loc}, Hx E σ s H locs → lv_has ls 7 [(0, .ref (gB E + 399)), (1, .int x1), (3, .int x3), (4, .int x4), (5, .int x5), (6, .int x6)] → X12_learnt_91 rc78 f x1 x3 x4 x5 x6 σ = some r → W p l e (RM 3) s m args below meth c H locs 0 0 (QI E below args s r.1 r.2) (F0 m 91 ls []) := by
  intro f
  induction f with
  | zero =>
    intro x1 x3 x4 x5 x6 σ ls H locs X hl h
    rw [X12_learnt_91] at h
    cases h
  | succ f ih =>
    intro x1 x3 x4 x5 x6 σ ls H locs X hl h
    rw [X12_learnt_91] at h
    refine lv_iload C.1 C.2.1 dX12_learnt_91 (lv_at hl 5 rfl) ?_
    refine lv_iload_n C.1 C.2.1 dX12_learnt_93 rfl (lv_at hl 1 rfl) ?_
    refine lv_icmp_ge (tgt := 166) C.1 C.2.1 dX12_learnt_94 (by decide) (fun c94 => ?_) (fun c94 => ?_)
    · replace h := ipos c94 h
      exact w_X12_learnt_166 C G hr78 X (lv_sub hl [0, 1, 2, 3, 4] rfl) h
    · replace h := ineg c94 h
      refine lv_iload C.1 C.2.1 dX12_learnt_97 (lv_at hl 4 rfl) ?_
      refine lv_if_eq (tgt := 166) C.1 C.2.1 dX12_learnt_99 (by decide) (fun c99 => ?_) (fun c99 => ?_)
      · replace h := ipos c99 h
        exact w_X12_learnt_166 C G hr78 X (lv_sub hl [0, 1, 2, 3, 4] rfl) h
      · replace h := ineg c99 h
        refine lv_aload_n C.1 C.2.1 dX12_learnt_102 rfl (lv_at hl 0 rfl) ?_
        refine lv_aload_n C.1 C.2.1 dX12_learnt_103 rfl (lv_at hl 0 rfl) ?_
        refine gfX12 C G X (k := 399) kd_399 7 (v := .ref (gB E + 404)) rfl rfl (by decide) k_1658 rfl dX12_learnt_104 ?_
        refine lv_iload C.1 C.2.1 dX12_learnt_107 (lv_at hl 5 rfl) ?_
        obtain ⟨r109, e109, h⟩ := bnd h
        refine ald C G X (k := 404) kd_404 (ag_s e109).1 dX12_learnt_109 ?_
        rw [(ag_s e109).2]
        refine lv_aload_n C.1 C.2.1 dX12_learnt_110 rfl (lv_at hl 0 rfl) ?_
        refine gfX12 C G X (k := 399) kd_399 7 (v := .ref (gB E + 404)) rfl rfl (by decide) k_1658 rfl dX12_learnt_111 ?_
        refine lv_iload C.1 C.2.1 dX12_learnt_114 (lv_at hl 5 rfl) ?_
        refine lv_iconst (v := 1) C.1 C.2.1 dX12_learnt_116 (by decide) ?_
        refine lv_iadd C.1 C.2.1 dX12_learnt_117 ?_
        obtain ⟨r118, e118, h⟩ := bnd h
        refine ald C G X (k := 404) kd_404 (ag_s e118).1 dX12_learnt_118 ?_
        rw [(ag_s e118).2]
        obtain ⟨r119, e119, h⟩ := bnd h
        refine afI X (runV C G X q_X12_likesOwner k_1903 kp_57 k_1901 (rcX12 G X kd_399) (c_X12_likesOwner l E e119) rfl hl.1 rfl (Nat.le_of_ble_eq_true rfl) ⟨Nat.le_of_ble_eq_true rfl, Nat.le_of_ble_eq_true rfl⟩ ⟨Nat.le_of_ble_eq_true rfl, Nat.le_of_ble_eq_true rfl⟩ dX12_learnt_119) (fun H locs X => ?_)
        refine lv_iload C.1 C.2.1 dX12_learnt_122 (lv_at hl 3 rfl) ?_
        refine lv_icmp_lt (tgt := 131) C.1 C.2.1 dX12_learnt_124 (by decide) (fun c124 => ?_) (fun c124 => ?_)
        · replace h := ipos c124 h
          refine lv_iconst (v := 0) C.1 C.2.1 dX12_learnt_131 (by decide) ?_
          exact w_X12_learnt_132 C G hr78 ih X (lv_sub hl [0, 1, 2, 3, 5] rfl) h
        · replace h := ineg c124 h
          refine lv_iconst (v := 1) C.1 C.2.1 dX12_learnt_127 (by decide) ?_
          refine lv_goto (tgt := 132) C.1 C.2.1 dX12_learnt_128 (by decide) ?_
          exact w_X12_learnt_132 C G hr78 ih X (lv_sub hl [0, 1, 2, 3, 5] rfl) h

set_option maxRecDepth 20000 in
theorem w_X12_learnt_78 {r : (Int32 × Mem)} (C : Cx p s m args meth c cX12_learnt (some .int) 7 RX12) (G : Gf E s) : ∀ (f : Nat) {x1 : Int32} {x3 : Int32} {x4 : Int32} {σ : Mem} {ls : Array Slot} {H : Heap} {locs : List Loc}, Hx E σ s H locs → lv_has ls 7 [(0, .ref (gB E + 399)), (1, .int x1), (3, .int x3), (4, .int x4)] → X12_learnt_78 f x1 x3 x4 σ = some r → W p l e (RM 3) s m args below meth c H locs 0 0 (QI E below args s r.1 r.2) (F0 m 78 ls []) := by
  intro f
  induction f with
  | zero =>
    intro x1 x3 x4 σ ls H locs X hl h
    rw [X12_learnt_78] at h
    cases h
  | succ f ih =>
    intro x1 x3 x4 σ ls H locs X hl h
    rw [X12_learnt_78] at h
    refine lv_iload C.1 C.2.1 dX12_learnt_78 (lv_at hl 3 rfl) ?_
    refine lv_bipush (v := 10) C.1 C.2.1 dX12_learnt_80 (by decide) ?_
    refine lv_icmp_ge (tgt := 188) C.1 C.2.1 dX12_learnt_82 (by decide) (fun c82 => ?_) (fun c82 => ?_)
    · replace h := ipos c82 h
      refine lv_iload_n C.1 C.2.1 dX12_learnt_188 rfl (lv_at hl 2 rfl) ?_
      rw [← Option.some.inj h]
      exact rtI C X dX12_learnt_189
    · replace h := ineg c82 h
      refine lv_iconst (v := 1) C.1 C.2.1 dX12_learnt_85 (by decide) ?_
      refine lv_istore (lv' := [(5, .int (1 : Int32)), (0, .ref (gB E + 399)), (1, .int x1), (3, .int x3), (4, .int x4)]) C.1 C.2.1 dX12_learnt_86 hl (by decide) rfl (fun ls hl => ?_)
      refine lv_iconst (v := 0) C.1 C.2.1 dX12_learnt_88 (by decide) ?_
      refine lv_istore (lv' := [(6, .int (0 : Int32)), (5, .int (1 : Int32)), (0, .ref (gB E + 399)), (1, .int x1), (3, .int x3), (4, .int x4)]) C.1 C.2.1 dX12_learnt_89 hl (by decide) rfl (fun ls hl => ?_)
      exact w_X12_learnt_91 C G ih FU X (lv_sub hl [2, 3, 4, 5, 1, 0] rfl) h

set_option maxRecDepth 20000 in
theorem w_X12_learnt_61 {r : (Int32 × Mem)} {σ : Mem} {x1 : Int32} {y1 : Int32} {ls : Array Slot} {H : Heap} {locs : List Loc} (C : Cx p s m args meth c cX12_learnt (some .int) 7 RX12) (G : Gf E s) (X : Hx E σ s H locs) (hl : lv_has ls 7 [(0, .ref (gB E + 399)), (1, .int x1)]) (h : X12_learnt_61 x1 y1 σ = some r) : W p l e (RM 3) s m args below meth c H locs 0 0 (QI E below args s r.1 r.2) (F0 m 61 ls [.int y1, .ref (gB E + 399)]) := by
  rw [X12_learnt_61] at h
  obtain ⟨σ61, e61, h⟩ := bnd h
  refine pfX12 C G X (k := 399) kd_399 0 (x := y1) (ty := .int) rfl rfl (Nat.le_of_ble_eq_true rfl) (by decide) k_1651 rfl rfl (by decide +kernel) rfl rfl dX12_learnt_61 (fun H locs X => ?_)
  replace X := pu_x e61 X
  refine lv_aload_n C.1 C.2.1 dX12_learnt_64 rfl (lv_at hl 0 rfl) ?_
  refine gfX12 C G X (k := 399) kd_399 0 (v := .int (σ61 399 0)) rfl rfl (by decide) k_1651 rfl dX12_learnt_65 ?_
  refine lv_if_le (tgt := 73) C.1 C.2.1 dX12_learnt_68 (by decide) (fun c68 => ?_) (fun c68 => ?_)
  · replace h := ipos c68 h
    refine lv_iconst (v := 0) C.1 C.2.1 dX12_learnt_73 (by decide) ?_
    refine lv_istore_n (lv' := [(3, .int (0 : Int32)), (0, .ref (gB E + 399)), (1, .int x1)]) C.1 C.2.1 dX12_learnt_74 rfl hl (by decide) rfl (fun ls hl => ?_)
    refine lv_iconst (v := 1) C.1 C.2.1 dX12_learnt_75 (by decide) ?_
    refine lv_istore (lv' := [(4, .int (1 : Int32)), (3, .int (0 : Int32)), (0, .ref (gB E + 399)), (1, .int x1)]) C.1 C.2.1 dX12_learnt_76 hl (by decide) rfl (fun ls hl => ?_)
    exact w_X12_learnt_78 C G FU X (lv_sub hl [2, 3, 1, 0] rfl) h
  · replace h := ineg c68 h
    refine lv_iconst (v := 0) C.1 C.2.1 dX12_learnt_71 (by decide) ?_
    rw [← Option.some.inj h]
    exact rtI C X dX12_learnt_72

set_option maxRecDepth 20000 in
theorem w_X12_learnt_51 {r : (Int32 × Mem)} {σ : Mem} {x1 : Int32} {x2 : Int32} {ls : Array Slot} {H : Heap} {locs : List Loc} (C : Cx p s m args meth c cX12_learnt (some .int) 7 RX12) (G : Gf E s) (X : Hx E σ s H locs) (hl : lv_has ls 7 [(0, .ref (gB E + 399)), (1, .int x1), (2, .int x2)]) (h : X12_learnt_51 x1 x2 σ = some r) : W p l e (RM 3) s m args below meth c H locs 0 0 (QI E below args s r.1 r.2) (F0 m 51 ls []) := by
  rw [X12_learnt_51] at h
  refine lv_aload_n C.1 C.2.1 dX12_learnt_51 rfl (lv_at hl 0 rfl) ?_
  refine lv_iload_n C.1 C.2.1 dX12_learnt_52 rfl (lv_at hl 2 rfl) ?_
  refine lv_if_eq (tgt := 60) C.1 C.2.1 dX12_learnt_53 (by decide) (fun c53 => ?_) (fun c53 => ?_)
  · replace h := ipos c53 h
    refine lv_iconst (v := 1) C.1 C.2.1 dX12_learnt_60 (by decide) ?_
    exact w_X12_learnt_61 C G X (lv_sub hl [0, 1] rfl) h
  · replace h := ineg c53 h
    refine lv_iconst (v := 0) C.1 C.2.1 dX12_learnt_56 (by decide) ?_
    refine lv_goto (tgt := 61) C.1 C.2.1 dX12_learnt_57 (by decide) ?_
    exact w_X12_learnt_61 C G X (lv_sub hl [0, 1] rfl) h

set_option maxRecDepth 20000 in
theorem w_X12_learnt_30 {r : (Int32 × Mem)} (C : Cx p s m args meth c cX12_learnt (some .int) 7 RX12) (G : Gf E s) : ∀ (f : Nat) {x1 : Int32} {x2 : Int32} {x3 : Int32} {σ : Mem} {ls : Array Slot} {H : Heap} {locs : List Loc}, Hx E σ s H locs → lv_has ls 7 [(0, .ref (gB E + 399)), (1, .int x1), (2, .int x2), (3, .int x3)] → X12_learnt_30 f x1 x2 x3 σ = some r → W p l e (RM 3) s m args below meth c H locs 0 0 (QI E below args s r.1 r.2) (F0 m 30 ls []) := by
  intro f
  induction f with
  | zero =>
    intro x1 x2 x3 σ ls H locs X hl h
    rw [X12_learnt_30] at h
    cases h
  | succ f ih =>
    intro x1 x2 x3 σ ls H locs X hl h
    rw [X12_learnt_30] at h
    refine lv_iload_n C.1 C.2.1 dX12_learnt_30 rfl (lv_at hl 3 rfl) ?_
    refine lv_iload_n C.1 C.2.1 dX12_learnt_31 rfl (lv_at hl 1 rfl) ?_
    refine lv_icmp_ge (tgt := 51) C.1 C.2.1 dX12_learnt_32 (by decide) (fun c32 => ?_) (fun c32 => ?_)
    · replace h := ipos c32 h
      exact w_X12_learnt_51 C G X (lv_sub hl [0, 1, 2] rfl) h
    · replace h := ineg c32 h
      refine lv_iload_n C.1 C.2.1 dX12_learnt_35 rfl (lv_at hl 2 rfl) ?_
      refine lv_if_eq (tgt := 51) C.1 C.2.1 dX12_learnt_36 (by decide) (fun c36 => ?_) (fun c36 => ?_)
      · replace h := ipos c36 h
        exact w_X12_learnt_51 C G X (lv_sub hl [0, 1, 2] rfl) h
      · replace h := ineg c36 h
        refine lv_aload_n C.1 C.2.1 dX12_learnt_39 rfl (lv_at hl 0 rfl) ?_
        refine lv_iload_n C.1 C.2.1 dX12_learnt_40 rfl (lv_at hl 3 rfl) ?_
        obtain ⟨r41, e41, h⟩ := bnd h
        refine afI X (runV C G X q_X12_isRow k_2196 kp_97 k_2194 (rcX12 G X kd_399) (c_X12_isRow l E e41) rfl hl.1 rfl (Nat.le_of_ble_eq_true rfl) ⟨Nat.le_of_ble_eq_true rfl, Nat.le_of_ble_eq_true rfl⟩ ⟨Nat.le_of_ble_eq_true rfl, Nat.le_of_ble_eq_true rfl⟩ dX12_learnt_41) (fun H locs X => ?_)
        refine lv_istore_n (lv' := [(2, .int r41), (0, .ref (gB E + 399)), (1, .int x1), (3, .int x3)]) C.1 C.2.1 dX12_learnt_44 rfl hl (by decide) rfl (fun ls hl => ?_)
        refine lv_iinc (v := (x3 + 3)) (lv' := [(3, .int (x3 + 3)), (2, .int r41), (0, .ref (gB E + 399)), (1, .int x1)]) C.1 C.2.1 dX12_learnt_45 hl (k := 3) rfl rfl (by decide) rfl (fun ls hl => ?_)
        refine lv_goto (tgt := 30) C.1 C.2.1 dX12_learnt_48 (by decide) ?_
        exact ih X (lv_sub hl [2, 3, 1, 0] rfl) h

set_option maxRecDepth 20000 in
theorem w_X12_learnt_27 {r : (Int32 × Mem)} {σ : Mem} {x1 : Int32} {y0 : Int32} {ls : Array Slot} {H : Heap} {locs : List Loc} (C : Cx p s m args meth c cX12_learnt (some .int) 7 RX12) (G : Gf E s) (X : Hx E σ s H locs) (hl : lv_has ls 7 [(0, .ref (gB E + 399)), (1, .int x1)]) (h : X12_learnt_27 x1 y0 σ = some r) : W p l e (RM 3) s m args below meth c H locs 0 0 (QI E below args s r.1 r.2) (F0 m 27 ls [.int y0]) := by
  rw [X12_learnt_27] at h
  refine lv_istore_n (lv' := [(2, .int y0), (0, .ref (gB E + 399)), (1, .int x1)]) C.1 C.2.1 dX12_learnt_27 rfl hl (by decide) rfl (fun ls hl => ?_)
  refine lv_iconst (v := 0) C.1 C.2.1 dX12_learnt_28 (by decide) ?_
  refine lv_istore_n (lv' := [(3, .int (0 : Int32)), (2, .int y0), (0, .ref (gB E + 399)), (1, .int x1)]) C.1 C.2.1 dX12_learnt_29 rfl hl (by decide) rfl (fun ls hl => ?_)
  exact w_X12_learnt_30 C G FU X (lv_sub hl [2, 3, 1, 0] rfl) h

set_option maxRecDepth 20000 in
theorem w_X12_learnt_26 {r : (Int32 × Mem)} {σ : Mem} {x1 : Int32} {ls : Array Slot} {H : Heap} {locs : List Loc} (C : Cx p s m args meth c cX12_learnt (some .int) 7 RX12) (G : Gf E s) (X : Hx E σ s H locs) (hl : lv_has ls 7 [(0, .ref (gB E + 399)), (1, .int x1)]) (h : X12_learnt_26 x1 σ = some r) : W p l e (RM 3) s m args below meth c H locs 0 0 (QI E below args s r.1 r.2) (F0 m 26 ls []) := by
  rw [X12_learnt_26] at h
  refine lv_iconst (v := 0) C.1 C.2.1 dX12_learnt_26 (by decide) ?_
  exact w_X12_learnt_27 C G X (lv_sub hl [0, 1] rfl) h

set_option maxRecDepth 20000 in
theorem w_X12_learnt {r : (Int32 × Mem)} {σ : Mem} {ls : Array Slot} {H : Heap} {locs : List Loc} (C : Cx p s m args meth c cX12_learnt (some .int) 7 RX12) (G : Gf E s) (X : Hx E σ s H locs) (hl : lv_has ls 7 [(0, .ref (gB E + 399))]) (h : X12_learnt σ = some r) : W p l e (RM 3) s m args below meth c H locs 0 0 (QI E below args s r.1 r.2) (F0 m 0 ls []) := by
  rw [X12_learnt] at h
  refine lv_aload_n C.1 C.2.1 dX12_learnt_0 rfl (lv_at hl 0 rfl) ?_
  refine gfX12 C G X (k := 399) kd_399 8 (v := .int (σ 399 8)) rfl rfl (by decide) k_1659 rfl dX12_learnt_1 ?_
  refine lv_istore_n (lv' := [(1, .int (σ 399 8)), (0, .ref (gB E + 399))]) C.1 C.2.1 dX12_learnt_4 rfl hl (by decide) rfl (fun ls hl => ?_)
  refine lv_aload_n C.1 C.2.1 dX12_learnt_5 rfl (lv_at hl 1 rfl) ?_
  refine lv_iconst (v := 0) C.1 C.2.1 dX12_learnt_6 (by decide) ?_
  obtain ⟨σ7, e7, h⟩ := bnd h
  refine pfX12 C G X (k := 399) kd_399 8 (x := (0 : Int32)) (ty := .int) rfl rfl (Nat.le_of_ble_eq_true rfl) (by decide) k_1659 rfl rfl (by decide +kernel) rfl rfl dX12_learnt_7 (fun H locs X => ?_)
  replace X := pu_x e7 X
  refine lv_iload_n C.1 C.2.1 dX12_learnt_10 rfl (lv_at hl 0 rfl) ?_
  refine lv_iconst (v := 3) C.1 C.2.1 dX12_learnt_11 (by decide) ?_
  refine lv_irem C.1 C.2.1 dX12_learnt_12 (by decide) ?_
  refine lv_if_ne (tgt := 26) C.1 C.2.1 dX12_learnt_13 (by decide) (fun c13 => ?_) (fun c13 => ?_)
  · replace h := ineg c13 h
    exact w_X12_learnt_26 C G X (lv_sub hl [1, 0] rfl) h
  · replace h := ipos c13 h
    refine lv_iload_n C.1 C.2.1 dX12_learnt_16 rfl (lv_at hl 0 rfl) ?_
    refine lv_bipush (v := 39) C.1 C.2.1 dX12_learnt_17 (by decide) ?_
    refine lv_icmp_gt (tgt := 26) C.1 C.2.1 dX12_learnt_19 (by decide) (fun c19 => ?_) (fun c19 => ?_)
    · replace h := ipos c19 h
      exact w_X12_learnt_26 C G X (lv_sub hl [1, 0] rfl) h
    · replace h := ineg c19 h
      refine lv_iconst (v := 1) C.1 C.2.1 dX12_learnt_22 (by decide) ?_
      refine lv_goto (tgt := 27) C.1 C.2.1 dX12_learnt_23 (by decide) ?_
      exact w_X12_learnt_27 C G X (lv_sub hl [1, 0] rfl) h

theorem c_X12_learnt (l : Launch) (E : GE) {σ : Mem} {r : (Int32 × Mem)} (h : X12_learnt σ = some r) : CtI l E yX12_learnt cX12_learnt 7 .int 3 [.ref (gB E + 399)] σ r.1 r.2 := by
  refine Met.ofW (cc := cX12_learnt) (maxL := 7) (ret := (some .int)) (by decide) rfl ?_
  intro p e s m args below meth c s₁ B hml hv
  obtain ⟨rfl, G, X⟩ := start hv
  have C := cxof B hml
  have hl := lv_entry [.ref (gB E + 399)] (n := 7) (Nat.le_of_ble_eq_true rfl)
  rw [lg_entry_eq]
  generalize (lg_sl [.ref (gB E + 399)] ++ List.replicate (7 - (lg_sl [.ref (gB E + 399)]).length) Slot.unset).toArray = ls at hl ⊢
  exact w_X12_learnt C G X hl h

set_option maxRecDepth 20000 in
theorem w_X12_share_58 {r : (Int32 × Mem)} {rc47 : Int32 → Int32 → Int32 → Mem → Option (Int32 × Mem)} (C : Cx p s m args meth c cX12_share (some .int) 6 RX12) (G : Gf E s) (hr47 : ∀ {x1 : Int32} {x2 : Int32} {x3 : Int32} {σ : Mem} {ls : Array Slot} {H : Heap} {locs : List Loc}, Hx E σ s H locs → lv_has ls 6 [(0, .ref (gB E + 399)), (1, .int x1), (2, .int x2), (3, .int x3)] → rc47 x1 x2 x3 σ = some r → W p l e (RM 3) s m args below meth c H locs 0 0 (QI E below args s r.1 r.2) (F0 m 47 ls [])) : ∀ (f : Nat) {x1 : Int32} {x2 : Int32} {x3 : Int32} {x4 : Int32} {x5 : Int32} {σ : Mem} {ls : Array Slot} {H : Heap} {locs : List Loc}, Hx E σ s H locs → lv_has ls 6 [(0, .ref (gB E + 399)), (1, .int x1), (2, .int x2), (3, .int x3), (4, .int x4), (5, .int x5)] → X12_share_58 rc47 f x1 x2 x3 x4 x5 σ = some r → W p l e (RM 3) s m args below meth c H locs 0 0 (QI E below args s r.1 r.2) (F0 m 58 ls []) := by
  intro f
  induction f with
  | zero =>
    intro x1 x2 x3 x4 x5 σ ls H locs X hl h
    rw [X12_share_58] at h
    cases h
  | succ f ih =>
    intro x1 x2 x3 x4 x5 σ ls H locs X hl h
    rw [X12_share_58] at h
    refine lv_iload C.1 C.2.1 dX12_share_58 (lv_at hl 5 rfl) ?_
    refine lv_aload_n C.1 C.2.1 dX12_share_60 rfl (lv_at hl 0 rfl) ?_
    refine gfX12 C G X (k := 399) kd_399 1 (v := .ref (gB E + 400)) rfl rfl (by decide) k_1652 rfl dX12_share_61 ?_
    refine lv_iconst (v := 3) C.1 C.2.1 dX12_share_64 (by decide) ?_
    obtain ⟨r65, e65, h⟩ := bnd h
    refine ald C G X (k := 400) kd_400 (ag_s e65).1 dX12_share_65 ?_
    rw [(ag_s e65).2]
    refine lv_icmp_ge (tgt := 96) C.1 C.2.1 dX12_share_66 (by decide) (fun c66 => ?_) (fun c66 => ?_)
    · replace h := ipos c66 h
      refine lv_aload_n C.1 C.2.1 dX12_share_96 rfl (lv_at hl 0 rfl) ?_
      refine lv_iload C.1 C.2.1 dX12_share_97 (lv_at hl 4 rfl) ?_
      refine lv_iconst (v := 0) C.1 C.2.1 dX12_share_99 (by decide) ?_
      refine lv_bipush (v := 99) C.1 C.2.1 dX12_share_100 (by decide) ?_
      refine lv_aload_n C.1 C.2.1 dX12_share_102 rfl (lv_at hl 0 rfl) ?_
      refine lv_iload C.1 C.2.1 dX12_share_103 (lv_at hl 4 rfl) ?_
      refine lv_iconst (v := 0) C.1 C.2.1 dX12_share_105 (by decide) ?_
      obtain ⟨r106, e106, h⟩ := bnd h
      refine afI X (runV C G X q_X12_of k_1855 kp_49 k_1853 (rcX12 G X kd_399) (c_X12_of l E e106) rfl hl.1 rfl (Nat.le_of_ble_eq_true rfl) ⟨Nat.le_of_ble_eq_true rfl, Nat.le_of_ble_eq_true rfl⟩ ⟨Nat.le_of_ble_eq_true rfl, Nat.le_of_ble_eq_true rfl⟩ dX12_share_106) (fun H locs X => ?_)
      refine lv_iconst (v := 1) C.1 C.2.1 dX12_share_109 (by decide) ?_
      refine lv_iadd C.1 C.2.1 dX12_share_110 ?_
      obtain ⟨r111, e111, h⟩ := bnd h
      refine afI X (runS C G X q_X12_lesser k_1958 k_1957 (c_X12_lesser l E e111) rfl hl.1 rfl (Nat.le_of_ble_eq_true rfl) ⟨Nat.le_of_ble_eq_true rfl, Nat.le_of_ble_eq_true rfl⟩ ⟨Nat.le_of_ble_eq_true rfl, Nat.le_of_ble_eq_true rfl⟩ dX12_share_111) (fun H locs X => ?_)
      obtain ⟨σ114, e114, h⟩ := bnd h
      refine afV X (runV C G X q_X12_lays k_1837 kp_45 k_1835 (rcX12 G X kd_399) (c_X12_lays l E e114) rfl hl.1 rfl (Nat.le_of_ble_eq_true rfl) ⟨Nat.le_of_ble_eq_true rfl, Nat.le_of_ble_eq_true rfl⟩ ⟨Nat.le_of_ble_eq_true rfl, Nat.le_of_ble_eq_true rfl⟩ dX12_share_114) (fun H locs X => ?_)
      refine lv_iinc (v := (x3 + 1)) (lv' := [(3, .int (x3 + 1)), (0, .ref (gB E + 399)), (1, .int x1), (2, .int x2), (4, .int x4), (5, .int x5)]) C.1 C.2.1 dX12_share_117 hl (k := 3) rfl rfl (by decide) rfl (fun ls hl => ?_)
      refine lv_goto (tgt := 47) C.1 C.2.1 dX12_share_120 (by decide) ?_
      exact hr47 X (lv_sub hl [1, 2, 3, 0] rfl) h
    · replace h := ineg c66 h
      refine lv_aload_n C.1 C.2.1 dX12_share_69 rfl (lv_at hl 0 rfl) ?_
      refine lv_iload C.1 C.2.1 dX12_share_70 (lv_at hl 5 rfl) ?_
      refine lv_iconst (v := 0) C.1 C.2.1 dX12_share_72 (by decide) ?_
      obtain ⟨r73, e73, h⟩ := bnd h
      refine afI X (runV C G X q_X12_of k_1855 kp_49 k_1853 (rcX12 G X kd_399) (c_X12_of l E e73) rfl hl.1 rfl (Nat.le_of_ble_eq_true rfl) ⟨Nat.le_of_ble_eq_true rfl, Nat.le_of_ble_eq_true rfl⟩ ⟨Nat.le_of_ble_eq_true rfl, Nat.le_of_ble_eq_true rfl⟩ dX12_share_73) (fun H locs X => ?_)
      refine lv_aload_n C.1 C.2.1 dX12_share_76 rfl (lv_at hl 0 rfl) ?_
      refine lv_iload C.1 C.2.1 dX12_share_77 (lv_at hl 4 rfl) ?_
      refine lv_iconst (v := 0) C.1 C.2.1 dX12_share_79 (by decide) ?_
      obtain ⟨r80, e80, h⟩ := bnd h
      refine afI X (runV C G X q_X12_of k_1855 kp_49 k_1853 (rcX12 G X kd_399) (c_X12_of l E e80) rfl hl.1 rfl (Nat.le_of_ble_eq_true rfl) ⟨Nat.le_of_ble_eq_true rfl, Nat.le_of_ble_eq_true rfl⟩ ⟨Nat.le_of_ble_eq_true rfl, Nat.le_of_ble_eq_true rfl⟩ dX12_share_80) (fun H locs X => ?_)
      refine lv_icmp_ge (tgt := 90) C.1 C.2.1 dX12_share_83 (by decide) (fun c83 => ?_) (fun c83 => ?_)
      · replace h := ipos c83 h
        refine lv_iinc (v := (x5 + 1)) (lv' := [(5, .int (x5 + 1)), (0, .ref (gB E + 399)), (1, .int x1), (2, .int x2), (3, .int x3), (4, .int x4)]) C.1 C.2.1 dX12_share_90 hl (k := 5) rfl rfl (by decide) rfl (fun ls hl => ?_)
        refine lv_goto (tgt := 58) C.1 C.2.1 dX12_share_93 (by decide) ?_
        exact ih X (lv_sub hl [1, 2, 3, 4, 5, 0] rfl) h
      · replace h := ineg c83 h
        refine lv_iload C.1 C.2.1 dX12_share_86 (lv_at hl 5 rfl) ?_
        refine lv_istore (lv' := [(4, .int x5), (0, .ref (gB E + 399)), (1, .int x1), (2, .int x2), (3, .int x3), (5, .int x5)]) C.1 C.2.1 dX12_share_88 hl (by decide) rfl (fun ls hl => ?_)
        refine lv_iinc (v := (x5 + 1)) (lv' := [(5, .int (x5 + 1)), (4, .int x5), (0, .ref (gB E + 399)), (1, .int x1), (2, .int x2), (3, .int x3)]) C.1 C.2.1 dX12_share_90 hl (k := 5) rfl rfl (by decide) rfl (fun ls hl => ?_)
        refine lv_goto (tgt := 58) C.1 C.2.1 dX12_share_93 (by decide) ?_
        exact ih X (lv_sub hl [2, 3, 4, 5, 1, 0] rfl) h

set_option maxRecDepth 20000 in
theorem w_X12_share_47 {r : (Int32 × Mem)} (C : Cx p s m args meth c cX12_share (some .int) 6 RX12) (G : Gf E s) : ∀ (f : Nat) {x1 : Int32} {x2 : Int32} {x3 : Int32} {σ : Mem} {ls : Array Slot} {H : Heap} {locs : List Loc}, Hx E σ s H locs → lv_has ls 6 [(0, .ref (gB E + 399)), (1, .int x1), (2, .int x2), (3, .int x3)] → X12_share_47 f x1 x2 x3 σ = some r → W p l e (RM 3) s m args below meth c H locs 0 0 (QI E below args s r.1 r.2) (F0 m 47 ls []) := by
  intro f
  induction f with
  | zero =>
    intro x1 x2 x3 σ ls H locs X hl h
    rw [X12_share_47] at h
    cases h
  | succ f ih =>
    intro x1 x2 x3 σ ls H locs X hl h
    rw [X12_share_47] at h
    refine lv_iload_n C.1 C.2.1 dX12_share_47 rfl (lv_at hl 3 rfl) ?_
    refine lv_iload_n C.1 C.2.1 dX12_share_48 rfl (lv_at hl 2 rfl) ?_
    refine lv_icmp_ge (tgt := 123) C.1 C.2.1 dX12_share_49 (by decide) (fun c49 => ?_) (fun c49 => ?_)
    · replace h := ipos c49 h
      refine lv_aload_n C.1 C.2.1 dX12_share_123 rfl (lv_at hl 0 rfl) ?_
      refine lv_iload_n C.1 C.2.1 dX12_share_124 rfl (lv_at hl 1 rfl) ?_
      refine lv_iconst (v := 0) C.1 C.2.1 dX12_share_125 (by decide) ?_
      obtain ⟨r126, e126, h⟩ := bnd h
      refine afI X (runV C G X q_X12_of k_1855 kp_49 k_1853 (rcX12 G X kd_399) (c_X12_of l E e126) rfl hl.1 rfl (Nat.le_of_ble_eq_true rfl) ⟨Nat.le_of_ble_eq_true rfl, Nat.le_of_ble_eq_true rfl⟩ ⟨Nat.le_of_ble_eq_true rfl, Nat.le_of_ble_eq_true rfl⟩ dX12_share_126) (fun H locs X => ?_)
      refine lv_istore_n (lv' := [(3, .int r126), (0, .ref (gB E + 399)), (1, .int x1), (2, .int x2)]) C.1 C.2.1 dX12_share_129 rfl hl (by decide) rfl (fun ls hl => ?_)
      refine lv_aload_n C.1 C.2.1 dX12_share_130 rfl (lv_at hl 1 rfl) ?_
      obtain ⟨σ131, e131, h⟩ := bnd h
      refine afV X (runV C G X q_X12_comesBack k_1875 kp_53 k_1873 (rcX12 G X kd_399) (c_X12_comesBack l E e131) rfl hl.1 rfl (Nat.le_of_ble_eq_true rfl) ⟨Nat.le_of_ble_eq_true rfl, Nat.le_of_ble_eq_true rfl⟩ ⟨Nat.le_of_ble_eq_true rfl, Nat.le_of_ble_eq_true rfl⟩ dX12_share_131) (fun H locs X => ?_)
      refine lv_iload_n C.1 C.2.1 dX12_share_134 rfl (lv_at hl 0 rfl) ?_
      rw [← Option.some.inj h]
      exact rtI C X dX12_share_135
    · replace h := ineg c49 h
      refine lv_iconst (v := 0) C.1 C.2.1 dX12_share_52 (by decide) ?_
      refine lv_istore (lv' := [(4, .int (0 : Int32)), (0, .ref (gB E + 399)), (1, .int x1), (2, .int x2), (3, .int x3)]) C.1 C.2.1 dX12_share_53 hl (by decide) rfl (fun ls hl => ?_)
      refine lv_iconst (v := 1) C.1 C.2.1 dX12_share_55 (by decide) ?_
      refine lv_istore (lv' := [(5, .int (1 : Int32)), (4, .int (0 : Int32)), (0, .ref (gB E + 399)), (1, .int x1), (2, .int x2), (3, .int x3)]) C.1 C.2.1 dX12_share_56 hl (by decide) rfl (fun ls hl => ?_)
      exact w_X12_share_58 C G ih FU X (lv_sub hl [2, 3, 4, 5, 1, 0] rfl) h

set_option maxRecDepth 20000 in
theorem w_X12_share_29 {r : (Int32 × Mem)} {σ : Mem} {x1 : Int32} {x2 : Int32} {y1 : Int32} {ls : Array Slot} {H : Heap} {locs : List Loc} (C : Cx p s m args meth c cX12_share (some .int) 6 RX12) (G : Gf E s) (X : Hx E σ s H locs) (hl : lv_has ls 6 [(0, .ref (gB E + 399)), (1, .int x1), (2, .int x2)]) (h : X12_share_29 x1 x2 y1 σ = some r) : W p l e (RM 3) s m args below meth c H locs 0 0 (QI E below args s r.1 r.2) (F0 m 29 ls [.int y1, .ref (gB E + 399)]) := by
  rw [X12_share_29] at h
  obtain ⟨σ29, e29, h⟩ := bnd h
  refine pfX12 C G X (k := 399) kd_399 0 (x := y1) (ty := .int) rfl rfl (Nat.le_of_ble_eq_true rfl) (by decide) k_1651 rfl rfl (by decide +kernel) rfl rfl dX12_share_29 (fun H locs X => ?_)
  replace X := pu_x e29 X
  refine lv_aload_n C.1 C.2.1 dX12_share_32 rfl (lv_at hl 0 rfl) ?_
  refine gfX12 C G X (k := 399) kd_399 0 (v := .int (σ29 399 0)) rfl rfl (by decide) k_1651 rfl dX12_share_33 ?_
  refine lv_if_le (tgt := 41) C.1 C.2.1 dX12_share_36 (by decide) (fun c36 => ?_) (fun c36 => ?_)
  · replace h := ipos c36 h
    refine lv_aload_n C.1 C.2.1 dX12_share_41 rfl (lv_at hl 0 rfl) ?_
    obtain ⟨σ42, e42, h⟩ := bnd h
    refine afV X (runV C G X q_X12_putsAside k_1742 kp_26 k_1740 (rcX12 G X kd_399) (c_X12_putsAside l E e42) rfl hl.1 rfl (Nat.le_of_ble_eq_true rfl) ⟨Nat.le_of_ble_eq_true rfl, Nat.le_of_ble_eq_true rfl⟩ ⟨Nat.le_of_ble_eq_true rfl, Nat.le_of_ble_eq_true rfl⟩ dX12_share_42) (fun H locs X => ?_)
    refine lv_iconst (v := 0) C.1 C.2.1 dX12_share_45 (by decide) ?_
    refine lv_istore_n (lv' := [(3, .int (0 : Int32)), (0, .ref (gB E + 399)), (1, .int x1), (2, .int x2)]) C.1 C.2.1 dX12_share_46 rfl hl (by decide) rfl (fun ls hl => ?_)
    exact w_X12_share_47 C G FU X (lv_sub hl [1, 2, 3, 0] rfl) h
  · replace h := ineg c36 h
    refine lv_iconst (v := 0) C.1 C.2.1 dX12_share_39 (by decide) ?_
    rw [← Option.some.inj h]
    exact rtI C X dX12_share_40

set_option maxRecDepth 20000 in
theorem w_X12_share {r : (Int32 × Mem)} {σ : Mem} {x1 : Int32} {x2 : Int32} {ls : Array Slot} {H : Heap} {locs : List Loc} (C : Cx p s m args meth c cX12_share (some .int) 6 RX12) (G : Gf E s) (X : Hx E σ s H locs) (hl : lv_has ls 6 [(0, .ref (gB E + 399)), (1, .int x1), (2, .int x2)]) (h : X12_share x1 x2 σ = some r) : W p l e (RM 3) s m args below meth c H locs 0 0 (QI E below args s r.1 r.2) (F0 m 0 ls []) := by
  rw [X12_share] at h
  refine lv_aload_n C.1 C.2.1 dX12_share_0 rfl (lv_at hl 0 rfl) ?_
  refine lv_aload_n C.1 C.2.1 dX12_share_1 rfl (lv_at hl 0 rfl) ?_
  refine lv_iload_n C.1 C.2.1 dX12_share_2 rfl (lv_at hl 1 rfl) ?_
  obtain ⟨r3, e3, h⟩ := bnd h
  refine afI X (runV C G X q_X12_isPane k_1891 kp_54 k_1889 (rcX12 G X kd_399) (c_X12_isPane l E e3) rfl hl.1 rfl (Nat.le_of_ble_eq_true rfl) ⟨Nat.le_of_ble_eq_true rfl, Nat.le_of_ble_eq_true rfl⟩ ⟨Nat.le_of_ble_eq_true rfl, Nat.le_of_ble_eq_true rfl⟩ dX12_share_3) (fun H locs X => ?_)
  refine lv_if_ne (tgt := 13) C.1 C.2.1 dX12_share_6 (by decide) (fun c6 => ?_) (fun c6 => ?_)
  · replace h := ineg c6 h
    refine lv_iload_n C.1 C.2.1 dX12_share_13 rfl (lv_at hl 2 rfl) ?_
    refine lv_iconst (v := 0) C.1 C.2.1 dX12_share_14 (by decide) ?_
    refine lv_sipush (v := 999) C.1 C.2.1 dX12_share_15 (by decide) ?_
    obtain ⟨r18, e18, h⟩ := bnd h
    refine afI X (runS C G X q_X12_isIn k_1734 k_1733 (c_X12_isIn l E e18) rfl hl.1 rfl (Nat.le_of_ble_eq_true rfl) ⟨Nat.le_of_ble_eq_true rfl, Nat.le_of_ble_eq_true rfl⟩ ⟨Nat.le_of_ble_eq_true rfl, Nat.le_of_ble_eq_true rfl⟩ dX12_share_18) (fun H locs X => ?_)
    refine lv_if_ne (tgt := 28) C.1 C.2.1 dX12_share_21 (by decide) (fun c21 => ?_) (fun c21 => ?_)
    · replace h := ineg c21 h
      refine lv_iconst (v := 0) C.1 C.2.1 dX12_share_28 (by decide) ?_
      exact w_X12_share_29 C G X (lv_sub hl [0, 1, 2] rfl) h
    · replace h := ipos c21 h
      refine lv_iconst (v := 2) C.1 C.2.1 dX12_share_24 (by decide) ?_
      refine lv_goto (tgt := 29) C.1 C.2.1 dX12_share_25 (by decide) ?_
      exact w_X12_share_29 C G X (lv_sub hl [0, 1, 2] rfl) h
  · replace h := ipos c6 h
    refine lv_iconst (v := 1) C.1 C.2.1 dX12_share_9 (by decide) ?_
    refine lv_goto (tgt := 29) C.1 C.2.1 dX12_share_10 (by decide) ?_
    exact w_X12_share_29 C G X (lv_sub hl [0, 1, 2] rfl) h

theorem c_X12_share (l : Launch) (E : GE) {σ : Mem} {x1 : Int32} {x2 : Int32} {r : (Int32 × Mem)} (h : X12_share x1 x2 σ = some r) : CtI l E yX12_share cX12_share 6 .int 3 [.ref (gB E + 399), .int x1, .int x2] σ r.1 r.2 := by
  refine Met.ofW (cc := cX12_share) (maxL := 6) (ret := (some .int)) (by decide) rfl ?_
  intro p e s m args below meth c s₁ B hml hv
  obtain ⟨rfl, G, X⟩ := start hv
  have C := cxof B hml
  have hl := lv_entry [.ref (gB E + 399), .int x1, .int x2] (n := 6) (Nat.le_of_ble_eq_true rfl)
  rw [lg_entry_eq]
  generalize (lg_sl [.ref (gB E + 399), .int x1, .int x2] ++ List.replicate (6 - (lg_sl [.ref (gB E + 399), .int x1, .int x2]).length) Slot.unset).toArray = ls at hl ⊢
  exact w_X12_share C G X hl h

set_option maxRecDepth 20000 in
theorem w_X12_hasBy {r : Int32} {σ : Mem} {x1 : Int32} {x2 : Int32} {x3 : Int32} {x4 : Int32} {ls : Array Slot} {H : Heap} {locs : List Loc} (C : Cx p s m args meth c cX12_hasBy (some .int) 5 RX12) (G : Gf E s) (X : Hx E σ s H locs) (hl : lv_has ls 5 [(0, .ref (gB E + 399)), (1, .int x1), (2, .int x2), (3, .int x3), (4, .int x4)]) (h : X12_hasBy σ x1 x2 x3 x4 = some r) : W p l e (RM 2) s m args below meth c H locs 0 0 (QI E below args s r σ) (F0 m 0 ls []) := by
  rw [X12_hasBy] at h
  refine lv_iload_n C.1 C.2.1 dX12_hasBy_0 rfl (lv_at hl 3 rfl) ?_
  refine lv_iconst (v := 1) C.1 C.2.1 dX12_hasBy_1 (by decide) ?_
  refine lv_icmp_ne (tgt := 16) C.1 C.2.1 dX12_hasBy_2 (by decide) (fun c2 => ?_) (fun c2 => ?_)
  · replace h := ineg c2 h
    refine lv_iload C.1 C.2.1 dX12_hasBy_16 (lv_at hl 4 rfl) ?_
    refine lv_if_ne (tgt := 32) C.1 C.2.1 dX12_hasBy_18 (by decide) (fun c18 => ?_) (fun c18 => ?_)
    · replace h := ineg c18 h
      refine lv_bipush (v := -2) C.1 C.2.1 dX12_hasBy_32 (by decide) ?_
      rw [← Option.some.inj h]
      exact rtI C X dX12_hasBy_34
    · replace h := ipos c18 h
      refine lv_aload_n C.1 C.2.1 dX12_hasBy_21 rfl (lv_at hl 0 rfl) ?_
      refine lv_iload_n C.1 C.2.1 dX12_hasBy_22 rfl (lv_at hl 1 rfl) ?_
      refine lv_iload_n C.1 C.2.1 dX12_hasBy_23 rfl (lv_at hl 2 rfl) ?_
      obtain ⟨r24, e24, h⟩ := bnd h
      refine afI X (runV C G X q_X12_liking k_1907 kp_58 k_1905 (rcX12 G X kd_399) (c_X12_liking l E e24) rfl hl.1 rfl (Nat.le_of_ble_eq_true rfl) ⟨Nat.le_of_ble_eq_true rfl, Nat.le_of_ble_eq_true rfl⟩ ⟨Nat.le_of_ble_eq_true rfl, Nat.le_of_ble_eq_true rfl⟩ dX12_hasBy_24) (fun H locs X => ?_)
      refine lv_iconst (v := 3) C.1 C.2.1 dX12_hasBy_27 (by decide) ?_
      refine lv_isub C.1 C.2.1 dX12_hasBy_28 ?_
      refine lv_goto (tgt := 34) C.1 C.2.1 dX12_hasBy_29 (by decide) ?_
      rw [← Option.some.inj h]
      exact rtI C X dX12_hasBy_34
  · replace h := ipos c2 h
    refine lv_iload C.1 C.2.1 dX12_hasBy_5 (lv_at hl 4 rfl) ?_
    refine lv_if_ne (tgt := 14) C.1 C.2.1 dX12_hasBy_7 (by decide) (fun c7 => ?_) (fun c7 => ?_)
    · replace h := ineg c7 h
      refine lv_iconst (v := 0) C.1 C.2.1 dX12_hasBy_14 (by decide) ?_
      rw [← Option.some.inj h]
      exact rtI C X dX12_hasBy_15
    · replace h := ipos c7 h
      refine lv_iconst (v := 4) C.1 C.2.1 dX12_hasBy_10 (by decide) ?_
      refine lv_goto (tgt := 15) C.1 C.2.1 dX12_hasBy_11 (by decide) ?_
      rw [← Option.some.inj h]
      exact rtI C X dX12_hasBy_15

theorem c_X12_hasBy (l : Launch) (E : GE) {σ : Mem} {x1 : Int32} {x2 : Int32} {x3 : Int32} {x4 : Int32} {r : Int32} (h : X12_hasBy σ x1 x2 x3 x4 = some r) : CtI l E yX12_hasBy cX12_hasBy 5 .int 2 [.ref (gB E + 399), .int x1, .int x2, .int x3, .int x4] σ r σ := by
  refine Met.ofW (cc := cX12_hasBy) (maxL := 5) (ret := (some .int)) (by decide) rfl ?_
  intro p e s m args below meth c s₁ B hml hv
  obtain ⟨rfl, G, X⟩ := start hv
  have C := cxof B hml
  have hl := lv_entry [.ref (gB E + 399), .int x1, .int x2, .int x3, .int x4] (n := 5) (Nat.le_of_ble_eq_true rfl)
  rw [lg_entry_eq]
  generalize (lg_sl [.ref (gB E + 399), .int x1, .int x2, .int x3, .int x4] ++ List.replicate (5 - (lg_sl [.ref (gB E + 399), .int x1, .int x2, .int x3, .int x4]).length) Slot.unset).toArray = ls at hl ⊢
  exact w_X12_hasBy C G X hl h

set_option maxRecDepth 20000 in
theorem w_X12_rests_20 {r : (Int32 × Mem)} (C : Cx p s m args meth c cX12_rests (some .int) 7 RX12) (G : Gf E s) : ∀ (f : Nat) {x1 : Int32} {x2 : Int32} {x3 : Int32} {x4 : Int32} {σ : Mem} {ls : Array Slot} {H : Heap} {locs : List Loc}, Hx E σ s H locs → lv_has ls 7 [(0, .ref (gB E + 399)), (1, .int x1), (2, .int x2), (3, .int x3), (4, .int x4)] → X12_rests_20 f x1 x2 x3 x4 σ = some r → W p l e (RM 4) s m args below meth c H locs 0 0 (QI E below args s r.1 r.2) (F0 m 20 ls []) := by
  intro f
  induction f with
  | zero =>
    intro x1 x2 x3 x4 σ ls H locs X hl h
    rw [X12_rests_20] at h
    cases h
  | succ f ih =>
    intro x1 x2 x3 x4 σ ls H locs X hl h
    rw [X12_rests_20] at h
    refine lv_iload C.1 C.2.1 dX12_rests_20 (lv_at hl 4 rfl) ?_
    refine lv_iconst (v := 4) C.1 C.2.1 dX12_rests_22 (by decide) ?_
    refine lv_icmp_ge (tgt := 101) C.1 C.2.1 dX12_rests_23 (by decide) (fun c23 => ?_) (fun c23 => ?_)
    · replace h := ipos c23 h
      refine lv_iload_n C.1 C.2.1 dX12_rests_101 rfl (lv_at hl 3 rfl) ?_
      rw [← Option.some.inj h]
      exact rtI C X dX12_rests_102
    · replace h := ineg c23 h
      refine lv_iload C.1 C.2.1 dX12_rests_26 (lv_at hl 4 rfl) ?_
      refine lv_iconst (v := 2) C.1 C.2.1 dX12_rests_28 (by decide) ?_
      refine lv_idiv C.1 C.2.1 dX12_rests_29 (by decide) ?_
      refine lv_istore (lv' := [(5, .int (x4 / (2 : Int32))), (0, .ref (gB E + 399)), (1, .int x1), (2, .int x2), (3, .int x3), (4, .int x4)]) C.1 C.2.1 dX12_rests_30 hl (by decide) rfl (fun ls hl => ?_)
      refine lv_iload C.1 C.2.1 dX12_rests_32 (lv_at hl 5 rfl) ?_
      refine lv_iconst (v := 2) C.1 C.2.1 dX12_rests_34 (by decide) ?_
      refine lv_irem C.1 C.2.1 dX12_rests_35 (by decide) ?_
      refine lv_istore (lv' := [(6, .int (x4 - x4 / (2 : Int32) * (2 : Int32))), (5, .int (x4 / (2 : Int32))), (0, .ref (gB E + 399)), (1, .int x1), (2, .int x2), (3, .int x3), (4, .int x4)]) C.1 C.2.1 dX12_rests_36 hl (by decide) rfl (fun ls hl => ?_)
      refine lv_aload_n C.1 C.2.1 dX12_rests_38 rfl (lv_at hl 2 rfl) ?_
      refine lv_iload_n C.1 C.2.1 dX12_rests_39 rfl (lv_at hl 3 rfl) ?_
      refine lv_iload_n C.1 C.2.1 dX12_rests_40 rfl (lv_at hl 4 rfl) ?_
      refine lv_iconst (v := 1) C.1 C.2.1 dX12_rests_41 (by decide) ?_
      refine lv_iload C.1 C.2.1 dX12_rests_42 (lv_at hl 1 rfl) ?_
      refine lv_isub C.1 C.2.1 dX12_rests_44 ?_
      refine lv_iload C.1 C.2.1 dX12_rests_45 (lv_at hl 0 rfl) ?_
      obtain ⟨r47, e47, h⟩ := bnd h
      refine afI X (runV C G X q_X12_hasBy k_2208 kp_98 k_2206 (rcX12 G X kd_399) (c_X12_hasBy l E e47) rfl hl.1 rfl (Nat.le_of_ble_eq_true rfl) ⟨Nat.le_of_ble_eq_true rfl, Nat.le_of_ble_eq_true rfl⟩ ⟨Nat.le_of_ble_eq_true rfl, Nat.le_of_ble_eq_true rfl⟩ dX12_rests_47) (fun H locs X => ?_)
      refine lv_aload_n C.1 C.2.1 dX12_rests_50 rfl (lv_at hl 2 rfl) ?_
      refine lv_iload_n C.1 C.2.1 dX12_rests_51 rfl (lv_at hl 3 rfl) ?_
      refine lv_iload_n C.1 C.2.1 dX12_rests_52 rfl (lv_at hl 4 rfl) ?_
      refine lv_iload C.1 C.2.1 dX12_rests_53 (lv_at hl 1 rfl) ?_
      refine lv_iload C.1 C.2.1 dX12_rests_55 (lv_at hl 0 rfl) ?_
      obtain ⟨r57, e57, h⟩ := bnd h
      refine afI X (runV C G X q_X12_hasBy k_2208 kp_98 k_2206 (rcX12 G X kd_399) (c_X12_hasBy l E e57) rfl hl.1 rfl (Nat.le_of_ble_eq_true rfl) ⟨Nat.le_of_ble_eq_true rfl, Nat.le_of_ble_eq_true rfl⟩ ⟨Nat.le_of_ble_eq_true rfl, Nat.le_of_ble_eq_true rfl⟩ dX12_rests_57) (fun H locs X => ?_)
      refine lv_icmp_gt (tgt := 95) C.1 C.2.1 dX12_rests_60 (by decide) (fun c60 => ?_) (fun c60 => ?_)
      · replace h := ipos c60 h
        refine lv_iinc (v := (x4 + 1)) (lv' := [(4, .int (x4 + 1)), (6, .int (x4 - x4 / (2 : Int32) * (2 : Int32))), (5, .int (x4 / (2 : Int32))), (0, .ref (gB E + 399)), (1, .int x1), (2, .int x2), (3, .int x3)]) C.1 C.2.1 dX12_rests_95 hl (k := 6) rfl rfl (by decide) rfl (fun ls hl => ?_)
        refine lv_goto (tgt := 20) C.1 C.2.1 dX12_rests_98 (by decide) ?_
        exact ih X (lv_sub hl [3, 4, 5, 6, 0] rfl) h
      · replace h := ineg c60 h
        refine lv_aload_n C.1 C.2.1 dX12_rests_63 rfl (lv_at hl 2 rfl) ?_
        refine lv_iload_n C.1 C.2.1 dX12_rests_64 rfl (lv_at hl 4 rfl) ?_
        refine lv_iload_n C.1 C.2.1 dX12_rests_65 rfl (lv_at hl 3 rfl) ?_
        refine lv_iconst (v := 1) C.1 C.2.1 dX12_rests_66 (by decide) ?_
        refine lv_iload C.1 C.2.1 dX12_rests_67 (lv_at hl 0 rfl) ?_
        refine lv_isub C.1 C.2.1 dX12_rests_69 ?_
        refine lv_iload C.1 C.2.1 dX12_rests_70 (lv_at hl 1 rfl) ?_
        obtain ⟨r72, e72, h⟩ := bnd h
        refine afI X (runV C G X q_X12_hasBy k_2208 kp_98 k_2206 (rcX12 G X kd_399) (c_X12_hasBy l E e72) rfl hl.1 rfl (Nat.le_of_ble_eq_true rfl) ⟨Nat.le_of_ble_eq_true rfl, Nat.le_of_ble_eq_true rfl⟩ ⟨Nat.le_of_ble_eq_true rfl, Nat.le_of_ble_eq_true rfl⟩ dX12_rests_72) (fun H locs X => ?_)
        refine lv_aload_n C.1 C.2.1 dX12_rests_75 rfl (lv_at hl 2 rfl) ?_
        refine lv_iload_n C.1 C.2.1 dX12_rests_76 rfl (lv_at hl 4 rfl) ?_
        refine lv_iload_n C.1 C.2.1 dX12_rests_77 rfl (lv_at hl 3 rfl) ?_
        refine lv_iload C.1 C.2.1 dX12_rests_78 (lv_at hl 0 rfl) ?_
        refine lv_iload C.1 C.2.1 dX12_rests_80 (lv_at hl 1 rfl) ?_
        obtain ⟨r82, e82, h⟩ := bnd h
        refine afI X (runV C G X q_X12_hasBy k_2208 kp_98 k_2206 (rcX12 G X kd_399) (c_X12_hasBy l E e82) rfl hl.1 rfl (Nat.le_of_ble_eq_true rfl) ⟨Nat.le_of_ble_eq_true rfl, Nat.le_of_ble_eq_true rfl⟩ ⟨Nat.le_of_ble_eq_true rfl, Nat.le_of_ble_eq_true rfl⟩ dX12_rests_82) (fun H locs X => ?_)
        refine lv_icmp_gt (tgt := 95) C.1 C.2.1 dX12_rests_85 (by decide) (fun c85 => ?_) (fun c85 => ?_)
        · replace h := ipos c85 h
          refine lv_iinc (v := (x4 + 1)) (lv' := [(4, .int (x4 + 1)), (6, .int (x4 - x4 / (2 : Int32) * (2 : Int32))), (5, .int (x4 / (2 : Int32))), (0, .ref (gB E + 399)), (1, .int x1), (2, .int x2), (3, .int x3)]) C.1 C.2.1 dX12_rests_95 hl (k := 6) rfl rfl (by decide) rfl (fun ls hl => ?_)
          refine lv_goto (tgt := 20) C.1 C.2.1 dX12_rests_98 (by decide) ?_
          exact ih X (lv_sub hl [3, 4, 5, 6, 0] rfl) h
        · replace h := ineg c85 h
          refine lv_iload_n C.1 C.2.1 dX12_rests_88 rfl (lv_at hl 5 rfl) ?_
          refine lv_iconst (v := 1) C.1 C.2.1 dX12_rests_89 (by decide) ?_
          refine lv_iload C.1 C.2.1 dX12_rests_90 (lv_at hl 6 rfl) ?_
          refine lv_ishl C.1 C.2.1 dX12_rests_92 ?_
          refine lv_ior C.1 C.2.1 dX12_rests_93 ?_
          refine lv_istore_n (lv' := [(3, .int (x3 ||| ((1 : Int32) <<< (x4 &&& 31)))), (6, .int (x4 - x4 / (2 : Int32) * (2 : Int32))), (5, .int (x4 / (2 : Int32))), (0, .ref (gB E + 399)), (1, .int x1), (2, .int x2), (4, .int x4)]) C.1 C.2.1 dX12_rests_94 rfl hl (by decide) rfl (fun ls hl => ?_)
          refine lv_iinc (v := (x4 + 1)) (lv' := [(4, .int (x4 + 1)), (3, .int (x3 ||| ((1 : Int32) <<< (x4 &&& 31)))), (6, .int (x4 - x4 / (2 : Int32) * (2 : Int32))), (5, .int (x4 / (2 : Int32))), (0, .ref (gB E + 399)), (1, .int x1), (2, .int x2)]) C.1 C.2.1 dX12_rests_95 hl (k := 6) rfl rfl (by decide) rfl (fun ls hl => ?_)
          refine lv_goto (tgt := 20) C.1 C.2.1 dX12_rests_98 (by decide) ?_
          exact ih X (lv_sub hl [4, 5, 6, 1, 0] rfl) h

set_option maxRecDepth 20000 in
theorem w_X12_rests {r : (Int32 × Mem)} {σ : Mem} {x1 : Int32} {x2 : Int32} {ls : Array Slot} {H : Heap} {locs : List Loc} (C : Cx p s m args meth c cX12_rests (some .int) 7 RX12) (G : Gf E s) (X : Hx E σ s H locs) (hl : lv_has ls 7 [(0, .ref (gB E + 399)), (1, .int x1), (2, .int x2)]) (h : X12_rests x1 x2 σ = some r) : W p l e (RM 4) s m args below meth c H locs 0 0 (QI E below args s r.1 r.2) (F0 m 0 ls []) := by
  rw [X12_rests] at h
  refine lv_aload_n C.1 C.2.1 dX12_rests_0 rfl (lv_at hl 0 rfl) ?_
  refine lv_iload_n C.1 C.2.1 dX12_rests_1 rfl (lv_at hl 1 rfl) ?_
  refine lv_iload_n C.1 C.2.1 dX12_rests_2 rfl (lv_at hl 2 rfl) ?_
  obtain ⟨σ3, e3, h⟩ := bnd h
  refine afV X (runV C G X q_X12_areTwo k_2002 kp_77 k_2000 (rcX12 G X kd_399) (c_X12_areTwo l E e3) rfl hl.1 rfl (Nat.le_of_ble_eq_true rfl) ⟨Nat.le_of_ble_eq_true rfl, Nat.le_of_ble_eq_true rfl⟩ ⟨Nat.le_of_ble_eq_true rfl, Nat.le_of_ble_eq_true rfl⟩ dX12_rests_3) (fun H locs X => ?_)
  refine lv_aload_n C.1 C.2.1 dX12_rests_6 rfl (lv_at hl 0 rfl) ?_
  refine gfX12 C G X (k := 399) kd_399 0 (v := .int (σ3 399 0)) rfl rfl (by decide) k_1651 rfl dX12_rests_7 ?_
  refine lv_if_le (tgt := 15) C.1 C.2.1 dX12_rests_10 (by decide) (fun c10 => ?_) (fun c10 => ?_)
  · replace h := ipos c10 h
    refine lv_iconst (v := 0) C.1 C.2.1 dX12_rests_15 (by decide) ?_
    refine lv_istore_n (lv' := [(3, .int (0 : Int32)), (0, .ref (gB E + 399)), (1, .int x1), (2, .int x2)]) C.1 C.2.1 dX12_rests_16 rfl hl (by decide) rfl (fun ls hl => ?_)
    refine lv_iconst (v := 0) C.1 C.2.1 dX12_rests_17 (by decide) ?_
    refine lv_istore (lv' := [(4, .int (0 : Int32)), (3, .int (0 : Int32)), (0, .ref (gB E + 399)), (1, .int x1), (2, .int x2)]) C.1 C.2.1 dX12_rests_18 hl (by decide) rfl (fun ls hl => ?_)
    exact w_X12_rests_20 C G FU X (lv_sub hl [2, 3, 4, 1, 0] rfl) h
  · replace h := ineg c10 h
    refine lv_iconst (v := 0) C.1 C.2.1 dX12_rests_13 (by decide) ?_
    rw [← Option.some.inj h]
    exact rtI C X dX12_rests_14

theorem c_X12_rests (l : Launch) (E : GE) {σ : Mem} {x1 : Int32} {x2 : Int32} {r : (Int32 × Mem)} (h : X12_rests x1 x2 σ = some r) : CtI l E yX12_rests cX12_rests 7 .int 4 [.ref (gB E + 399), .int x1, .int x2] σ r.1 r.2 := by
  refine Met.ofW (cc := cX12_rests) (maxL := 7) (ret := (some .int)) (by decide) rfl ?_
  intro p e s m args below meth c s₁ B hml hv
  obtain ⟨rfl, G, X⟩ := start hv
  have C := cxof B hml
  have hl := lv_entry [.ref (gB E + 399), .int x1, .int x2] (n := 7) (Nat.le_of_ble_eq_true rfl)
  rw [lg_entry_eq]
  generalize (lg_sl [.ref (gB E + 399), .int x1, .int x2] ++ List.replicate (7 - (lg_sl [.ref (gB E + 399), .int x1, .int x2]).length) Slot.unset).toArray = ls at hl ⊢
  exact w_X12_rests C G X hl h

end WALK

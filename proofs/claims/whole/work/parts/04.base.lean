/-! the world of the claim: a static shape of 412 cells, and a memory of ints -/
abbrev Mem : Type := Nat → Nat → Int32
/-- base address, classes, array classes, the constants of Term, the texts, their byte arrays, the array ALL -/
abbrev GE : Type := Nat × va_G × (Nat → ClassId) × (Nat → Nat) × (Nat → Nat) × (Nat → Nat) × Nat
def gB (E : GE) : Nat := E.1
def gD (E : GE) : va_G := E.2.1
def gT (E : GE) : Nat → ClassId := E.2.2.1
def gA (E : GE) : Nat → Nat := E.2.2.2.1
def gK (E : GE) : Nat → Nat := E.2.2.2.2.1
def gV (E : GE) : Nat → Nat := E.2.2.2.2.2.1
def gZ (E : GE) : Nat := E.2.2.2.2.2.2
abbrev nC : Nat := 412
def kdL : List Nat := [9, 4, 1, 0, 11, 1, 0, 1, 0, 2, 1, 0, 1, 0, 1, 0, 1, 0, 1, 0, 1, 0, 1, 0, 1, 0, 1, 0, 1, 0, 2, 1, 0, 1, 0, 1, 0, 1, 0, 1, 0, 1, 0, 1, 0, 1, 0, 1, 0, 1, 0, 2, 1, 0, 1, 0, 1, 0, 1, 0, 1, 0, 1, 0, 1, 0, 1, 0, 1, 0, 1, 0, 3, 1, 0, 1, 0, 1, 0, 1, 0, 1, 0, 1, 0, 3, 1, 0, 1, 0, 1, 0, 1, 0, 1, 0, 1, 0, 3, 1, 0, 1, 0, 1, 0, 1, 0, 1, 0, 1, 0, 5, 12, 2, 1, 0, 1, 0, 1, 0, 1, 0, 1, 0, 1, 0, 1, 0, 1, 0, 1, 0, 1, 0, 2, 1, 0, 1, 0, 1, 0, 1, 0, 1, 0, 1, 0, 1, 0, 1, 0, 1, 0, 1, 0, 2, 1, 0, 1, 0, 1, 0, 1, 0, 1, 0, 1, 0, 1, 0, 1, 0, 1, 0, 1, 0, 2, 1, 0, 1, 0, 1, 0, 1, 0, 1, 0, 1, 0, 1, 0, 1, 0, 1, 0, 1, 0, 2, 1, 0, 1, 0, 1, 0, 1, 0, 1, 0, 1, 0, 1, 0, 1, 0, 1, 0, 1, 0, 2, 1, 0, 1, 0, 1, 0, 1, 0, 1, 0, 1, 0, 1, 0, 1, 0, 1, 0, 1, 0, 2, 1, 0, 1, 0, 1, 0, 1, 0, 1, 0, 1, 0, 1, 0, 1, 0, 1, 0, 1, 0, 2, 1, 0, 1, 0, 1, 0, 1, 0, 1, 0, 1, 0, 1, 0, 1, 0, 1, 0, 1, 0, 2, 1, 0, 1, 0, 1, 0, 1, 0, 1, 0, 1, 0, 1, 0, 1, 0, 1, 0, 1, 0, 2, 1, 0, 1, 0, 1, 0, 1, 0, 1, 0, 1, 0, 1, 0, 1, 0, 1, 0, 1, 0, 2, 1, 0, 1, 0, 1, 0, 1, 0, 1, 0, 1, 0, 1, 0, 1, 0, 1, 0, 1, 0, 2, 1, 0, 1, 0, 1, 0, 1, 0, 1, 0, 1, 0, 1, 0, 1, 0, 1, 0, 1, 0, 6, 2, 1, 0, 1, 0, 1, 0, 1, 0, 1, 0, 1, 0, 1, 0, 1, 0, 1, 0, 1, 0, 7, 1, 0, 1, 0, 1, 0, 1, 0, 8, 1, 0, 10, 0, 0, 0, 0, 0, 0, 0, 0, 0, 0, 0, 13]
def lnL : List Nat := [0, 0, 0, 400, 401, 0, 401, 0, 401, 0, 0, 9, 0, 9, 0, 9, 0, 9, 0, 6, 0, 6, 0, 6, 0, 6, 0, 36, 0, 60, 0, 0, 9, 0, 9, 0, 9, 0, 9, 0, 6, 0, 6, 0, 6, 0, 6, 0, 36, 0, 60, 0, 0, 9, 0, 9, 0, 9, 0, 9, 0, 6, 0, 6, 0, 6, 0, 6, 0, 36, 0, 60, 0, 0, 12, 0, 12, 0, 12, 0, 400, 0, 9, 0, 64, 0, 0, 12, 0, 12, 0, 12, 0, 400, 0, 9, 0, 64, 0, 0, 12, 0, 12, 0, 12, 0, 400, 0, 9, 0, 64, 0, 12, 0, 0, 9, 0, 9, 0, 9, 0, 9, 0, 6, 0, 6, 0, 6, 0, 6, 0, 36, 0, 60, 0, 0, 9, 0, 9, 0, 9, 0, 9, 0, 6, 0, 6, 0, 6, 0, 6, 0, 36, 0, 60, 0, 0, 9, 0, 9, 0, 9, 0, 9, 0, 6, 0, 6, 0, 6, 0, 6, 0, 36, 0, 60, 0, 0, 9, 0, 9, 0, 9, 0, 9, 0, 6, 0, 6, 0, 6, 0, 6, 0, 36, 0, 60, 0, 0, 9, 0, 9, 0, 9, 0, 9, 0, 6, 0, 6, 0, 6, 0, 6, 0, 36, 0, 60, 0, 0, 9, 0, 9, 0, 9, 0, 9, 0, 6, 0, 6, 0, 6, 0, 6, 0, 36, 0, 60, 0, 0, 9, 0, 9, 0, 9, 0, 9, 0, 6, 0, 6, 0, 6, 0, 6, 0, 36, 0, 60, 0, 0, 9, 0, 9, 0, 9, 0, 9, 0, 6, 0, 6, 0, 6, 0, 6, 0, 36, 0, 60, 0, 0, 9, 0, 9, 0, 9, 0, 9, 0, 6, 0, 6, 0, 6, 0, 6, 0, 36, 0, 60, 0, 0, 9, 0, 9, 0, 9, 0, 9, 0, 6, 0, 6, 0, 6, 0, 6, 0, 36, 0, 60, 0, 0, 9, 0, 9, 0, 9, 0, 9, 0, 6, 0, 6, 0, 6, 0, 6, 0, 36, 0, 60, 0, 0, 9, 0, 9, 0, 9, 0, 9, 0, 6, 0, 6, 0, 6, 0, 6, 0, 36, 0, 60, 0, 0, 0, 9, 0, 9, 0, 9, 0, 9, 0, 6, 0, 6, 0, 6, 0, 6, 0, 36, 0, 60, 0, 0, 81, 0, 4608, 0, 21, 0, 10, 0, 0, 64, 0, 888, 888, 488, 5856, 400, 7, 81, 2304, 64, 81, 9, 1]
/-- the kind of a cell, and its length if it is an array -/
def kd (k : Nat) : Nat := kdL.getD k 99
def ln (k : Nat) : Nat := lnL.getD k 0
/-- a Term as a number: 0 is null, else one more than its place -/
def tO (E : GE) (x : Int32) : Option Nat := if x = 0 then none else some (gA E (x.toNatClampNeg - 1))
def tV (E : GE) (x : Int32) : Value := va_rf (tO E x)
def gTy (E : GE) : List (ClassId × FieldType) := [(gT E 0, .int), (gT E 1, .object "PaneStreet$Term"), (gT E 2, .object "PaneStreet$Street"), (gT E 3, .long)]
def cell0 (E : GE) (k : Nat) (r : Nat → Int32) (t : Nat) : va_E := match t with
  | 0 => .inl (gT E 0, ln k, .inl r)
  | 1 => .inr (5, [.ref (gB E + (k + 1))])
  | 2 => .inr (6, [.int (r 0), .int (r 1), .int (r 2), .int (r 3), .int (r 4), .int (r 5), .int (r 6), .int (r 7), .int (r 8), .ref (gB E + (k + 1)), .ref (gB E + (k + 3)), .ref (gB E + (k + 5)), .ref (gB E + (k + 7)), .ref (gB E + (k + 9)), .ref (gB E + (k + 11)), .ref (gB E + (k + 13)), .ref (gB E + (k + 15)), .ref (gB E + (k + 17)), .ref (gB E + (k + 19)), .int (r 19)])
  | 3 => .inr (3, [.int (r 0), .ref (gB E + (k + 1)), .ref (gB E + (k + 3)), .ref (gB E + (k + 5)), .ref (gB E + (k + 7)), .int (r 5), .ref (gB E + (k + 9)), .ref (gB E + (k + 11))])
  | 4 => .inr (7, [.ref (gB E + (k + 1)), .int (r 1), .ref (gB E + (k + 3)), .ref (gB E + (k + 4)), .ref (gB E + (k + 6)), .int (r 5), .int (r 6)])
  | 5 => .inr (2, [.ref (gB E + (k + 1)), .int (r 1), .int (r 2)])
  | 6 => .inr (0, [.ref (gB E + (k + 1))])
  | 7 => .inr (4, [.ref (gB E + (k + 1)), .ref (gB E + (k + 3)), .ref (gB E + (k + 5)), .ref (gB E + (k + 7))])
  | 8 => .inr (1, [.ref (gB E + (k + 1))])
  | 9 => .inr (8, [.ref (gB E + (k + 1)), .ref (gB E + (k + 9)), .ref (gB E + (k + 30)), .ref (gB E + (k + 51)), .ref (gB E + (k + 72)), .ref (gB E + (k + 85)), .ref (gB E + (k + 98)), .int (r 7), .ref (gB E + (k + 111)), .ref (gB E + (k + 365)), .ref (gB E + (k + 387)), .ref (gB E + (k + 396))])
  | 10 => .inr (9, [.int (r 0), .ref (gB E + (k + 1)), .ref (gB E + (k + 2)), .int (r 3), .ref (gB E + (k + 3)), .ref (gB E + (k + 4)), .int (r 6), .ref (gB E + (k + 5)), .int (r 8), .int (r 9), .int (r 10), .int (r 11), .int (r 12), .int (r 13), .ref (gB E + (k + 6)), .int (r 15), .int (r 16), .int (r 17), .ref (gB E + (k + 7)), .ref (gB E + (k + 8)), .ref (gB E + (k + 9)), .ref (gB E + (k + 10)), .ref (gB E + (k + 11))])
  | 11 => .inl (gT E 1, ln k, .inr (.inr (.inr (.inr (fun j => tO E (r j))))))
  | 12 => .inl (gT E 2, ln k, .inr (.inr (.inr (.inr (fun j => some (gB E + (k + 1 + 21 * j)))))))
  | _ => .inl (gT E 3, ln k, .inr (.inl (fun j => (r j).toInt64)))
def cellOf (E : GE) (σ : Mem) (k : Nat) : va_E := cell0 E k (σ k) (kd k)
def ce (E : GE) (σ : Mem) : va_W := (List.range nC).map (fun k => (gB E + k, cellOf E σ k))
def Fr (E : GE) : Nat → Prop := fun q => gB E ≤ q
theorem kd_lt {k : Nat} (h : kd k ≠ 99) : k < nC := by
  rcases Nat.lt_or_ge k nC with q | q
  · exact q
  · exact absurd (show kdL.getD k 99 = 99 by rw [List.getD_eq_getElem?_getD, List.getElem?_eq_none (by rw [show kdL.length = nC by decide +kernel]; exact q)]; rfl) h
theorem ce_at {E : GE} {σ : Mem} {k : Nat} (h : k < nC) : (ce E σ)[k]? = some (gB E + k, cellOf E σ k) := by
  rw [ce, List.getElem?_map, List.getElem?_range h]; rfl
theorem ce_k {E : GE} {σ : Mem} {k : Nat} (t : Nat) (h : kd k = t) (ht : t ≠ 99) : (ce E σ)[k]? = some (gB E + k, cell0 E k (σ k) t) := by
  rw [ce_at (kd_lt (by rw [h]; exact ht)), cellOf, h]
def sr (σ : Mem) (k : Nat) (f : Nat → Int32) : Mem := fun b => if b = k then f else σ b
def st (σ : Mem) (k i : Nat) (x : Int32) : Mem := sr σ k (upd (σ k) i x)
theorem ce_sr {E : GE} {σ : Mem} {k t : Nat} {f : Nat → Int32} {e : va_E} (h : kd k = t) (ht : t ≠ 99) (he : e = cell0 E k f t) : (ce E σ).set k (gB E + k, e) = ce E (sr σ k f) := by
  have hk : k < nC := kd_lt (by rw [h]; exact ht)
  apply List.ext_getElem?
  intro j
  by_cases hj : j = k
  · subst hj
    rw [List.getElem?_set_self (by rw [ce, List.length_map, List.length_range]; exact hk), ce_at hk, cellOf, h, he, sr, if_pos rfl]
  · rw [List.getElem?_set_ne (Ne.symm hj)]
    rcases Nat.lt_or_ge j nC with q | q
    · rw [ce_at q, ce_at q, cellOf, cellOf, sr, if_neg hj]
    · rw [List.getElem?_eq_none (by rw [ce, List.length_map, List.length_range]; exact q), List.getElem?_eq_none (by rw [ce, List.length_map, List.length_range]; exact q)]
theorem ce_q {E : GE} {σ : Mem} {k : Nat} {q : Nat × va_E} (h : (ce E σ)[k]? = some q) : k < nC ∧ q = (gB E + k, cellOf E σ k) := by
  rcases Nat.lt_or_ge k nC with z | z
  · rw [ce_at z] at h; exact ⟨z, (Option.some.inj h).symm⟩
  · rw [List.getElem?_eq_none (by rw [ce, List.length_map, List.length_range]; exact z)] at h; cases h
theorem ceD {E : GE} {σ : Mem} : va_D (Fr E) (ce E σ) := by
  refine ⟨fun i j p q hi hj e => ?_, fun k q h => ?_⟩
  · obtain ⟨-, rfl⟩ := ce_q hi
    obtain ⟨-, rfl⟩ := ce_q hj
    exact Nat.add_left_cancel e
  · obtain ⟨-, rfl⟩ := ce_q h
    exact Nat.le_add_right _ _
theorem sr_s {σ : Mem} {k : Nat} {f : Nat → Int32} : sr σ k f k = f := if_pos rfl
theorem sr_n {σ : Mem} {k b : Nat} {f : Nat → Int32} (h : b ≠ k) : sr σ k f b = σ b := if_neg h
theorem st_s {σ : Mem} {k i : Nat} {x : Int32} : st σ k i x k = upd (σ k) i x := if_pos rfl
theorem st_n {σ : Mem} {k i b : Nat} {x : Int32} (h : b ≠ k) : st σ k i x b = σ b := if_neg h

/-- the words that are good ones, and others -/
def WU : List Cond := lw_tbl.filter goodWord
theorem wu {w : Cond} (i : Nat) (h : lw_tbl[i]? = some w) (g : goodWord w = true) : w ∈ WU := List.mem_filter.mpr ⟨List.mem_of_getElem? h, g⟩
theorem wuG {w : Cond} (h : w ∈ WU) : goodWord w = true := (List.mem_filter.mp h).2
def nstL : List Cond := [.methodLinkNest "PaneStreet" 9 ⟨"PaneStreet$Text", "<init>", "()V"⟩ "PaneStreet", .methodLinkNest "PaneStreet" 18 ⟨"PaneStreet$Street", "<init>", "()V"⟩ "PaneStreet", .methodLinkNest "PaneStreet" 31 ⟨"PaneStreet$Law", "<init>", "()V"⟩ "PaneStreet", .methodLinkNest "PaneStreet$History" 17 ⟨"PaneStreet$Street", "<init>", "()V"⟩ "PaneStreet", .methodLinkNest "PaneStreet" 51 ⟨"PaneStreet$Clock", "<init>", "()V"⟩ "PaneStreet", .methodLinkNest "PaneStreet$Clock" 11 ⟨"PaneStreet$Street", "<init>", "()V"⟩ "PaneStreet", .methodLinkNest "PaneStreet" 58 ⟨"PaneStreet$Net", "<init>", "()V"⟩ "PaneStreet", .methodLinkNest "PaneStreet" 65 ⟨"PaneStreet$Favours", "<init>", "()V"⟩ "PaneStreet", .methodLinkNest "PaneStreet$Street" 87 ⟨"PaneStreet", "bit", "(I)I"⟩ "PaneStreet", .methodLinkNest "PaneStreet$Street" 95 ⟨"PaneStreet", "hasBit", "(II)Z"⟩ "PaneStreet", .methodLinkNest "PaneStreet$Street" 109 ⟨"PaneStreet", "lowest", "(I)I"⟩ "PaneStreet", .methodLinkNest "PaneStreet$Favours" 43 ⟨"PaneStreet", "bit", "(I)I"⟩ "PaneStreet", .methodLinkNest "PaneStreet$Net" 45 ⟨"PaneStreet", "bit", "(I)I"⟩ "PaneStreet", .methodLinkNest "PaneStreet$Net" 41 ⟨"PaneStreet", "hasBit", "(II)Z"⟩ "PaneStreet", .methodLinkNest "PaneStreet$Net" 86 ⟨"PaneStreet", "lowest", "(I)I"⟩ "PaneStreet", .methodLinkNest "PaneStreet$Favours" 74 ⟨"PaneStreet", "hasBit", "(II)Z"⟩ "PaneStreet", .fieldLinkNest "PaneStreet$Text" 86 "PaneStreet$Term" "ALL" "[LPaneStreet$Term;" "PaneStreet", .methodLinkNest "PaneStreet$Favours" 101 ⟨"PaneStreet", "lowest", "(I)I"⟩ "PaneStreet"]
def dclL : List MethodName := [⟨"java/lang/RuntimeException", "<init>", "()V"⟩, ⟨"java/lang/RuntimeException", "<init>", "(Ljava/lang/String;)V"⟩, ⟨"java/lang/Exception", "<init>", "()V"⟩, ⟨"java/lang/Exception", "<init>", "(Ljava/lang/String;)V"⟩, ⟨"java/lang/Throwable", "<init>", "()V"⟩, ⟨"java/lang/Throwable", "<init>", "(Ljava/lang/String;)V"⟩]
def cstL : List (String × String) := [("java/lang/IllegalArgumentException", "java/lang/IllegalArgumentException"), ("java/lang/UnsupportedOperationException", "java/lang/UnsupportedOperationException"), ("java/lang/IndexOutOfBoundsException", "java/lang/IndexOutOfBoundsException"), ("java/util/NoSuchElementException", "java/util/NoSuchElementException"), ("java/lang/IllegalStateException", "java/lang/IllegalStateException"), ("PaneStreet", "java/lang/Object"), ("PaneStreet$Text", "java/lang/Object"), ("PaneStreet$Row", "java/lang/Object"), ("PaneStreet$Street", "java/lang/Object"), ("PaneStreet$Law", "java/lang/Object"), ("PaneStreet$Term", "java/lang/Object"), ("PaneStreet$History", "java/lang/Object"), ("PaneStreet$Clock", "java/lang/Object"), ("PaneStreet$Net", "java/lang/Object"), ("PaneStreet$Favours", "java/lang/Object"), ("PaneStreetModel", "java/lang/Object"), ("java/lang/IllegalArgumentException", "java/lang/Object"), ("java/lang/UnsupportedOperationException", "java/lang/Object"), ("java/lang/IndexOutOfBoundsException", "java/lang/Object"), ("java/util/NoSuchElementException", "java/lang/Object"), ("java/lang/IllegalStateException", "java/lang/Object"), ("java/lang/Throwable", "java/lang/Object"), ("java/lang/String", "java/lang/Object")]
def ncL : List (String × String) := [("java/lang/UnsupportedOperationException", "java/lang/IllegalArgumentException"), ("java/lang/IndexOutOfBoundsException", "java/lang/IllegalArgumentException"), ("java/util/NoSuchElementException", "java/lang/IllegalArgumentException"), ("java/lang/IllegalStateException", "java/lang/IllegalArgumentException"), ("java/lang/IllegalArgumentException", "java/lang/UnsupportedOperationException"), ("java/lang/IndexOutOfBoundsException", "java/lang/UnsupportedOperationException"), ("java/util/NoSuchElementException", "java/lang/UnsupportedOperationException"), ("java/lang/IllegalStateException", "java/lang/UnsupportedOperationException"), ("java/lang/IllegalArgumentException", "java/lang/IndexOutOfBoundsException"), ("java/lang/UnsupportedOperationException", "java/lang/IndexOutOfBoundsException"), ("java/util/NoSuchElementException", "java/lang/IndexOutOfBoundsException"), ("java/lang/IllegalStateException", "java/lang/IndexOutOfBoundsException"), ("java/lang/IllegalArgumentException", "java/util/NoSuchElementException"), ("java/lang/UnsupportedOperationException", "java/util/NoSuchElementException"), ("java/lang/IndexOutOfBoundsException", "java/util/NoSuchElementException"), ("java/lang/IllegalStateException", "java/util/NoSuchElementException"), ("java/lang/IllegalArgumentException", "java/lang/IllegalStateException"), ("java/lang/UnsupportedOperationException", "java/lang/IllegalStateException"), ("java/lang/IndexOutOfBoundsException", "java/lang/IllegalStateException"), ("java/util/NoSuchElementException", "java/lang/IllegalStateException")]
def tmN : List String := ["END", "WRONG", "NUMBER", "NEXT_LINE", "OPEN", "CLOSE", "PLUS", "LESS", "MORE", "PANE", "WALKER", "OIL", "DARK", "TAPER", "LIKES", "HOUR", "OWNED", "MISTY", "LIT", "AT", "OWNS", "HEADS", "WAY", "FOG", "NIGHT", "KIND", "COLD", "PASS", "IF", "NOT", "AND", "OR"]
def fctL : List Int32 := [-1, -1, -1, -1, -1, -1, -1, -1, -1, 0, 1, 2, 3, 4, 5, 6, 7, 8, -1, -1, -1, -1, -1, -1, -1, -1, -1, -1, -1, -1, -1, -1]
def spL : List Nat := [0, 0, 0, 1, 2, 3, 4, 5, 6, 7, 8, 9, 10, 11, 12, 13, 14, 15, 16, 17, 18, 19, 20, 21, 22, 23, 24, 25, 26, 27, 28, 29]
def txN : Nat := 30
def txL : List Nat := [0, 1, 1, 1, 1, 1, 1, 4, 6, 3, 4, 5, 5, 4, 5, 5, 3, 2, 4, 5, 3, 3, 5, 4, 4, 4, 2, 3, 3, 2]
def txB : List (List Int32) := [[], [59], [40], [41], [43], [60], [62], [112, 97, 110, 101], [119, 97, 108, 107, 101, 114], [111, 105, 108], [100, 97, 114, 107], [116, 97, 112, 101, 114], [108, 105, 107, 101, 115], [104, 111, 117, 114], [111, 119, 110, 101, 100], [109, 105, 115, 116, 121], [108, 105, 116], [97, 116], [111, 119, 110, 115], [104, 101, 97, 100, 115], [119, 97, 121], [102, 111, 103], [110, 105, 103, 104, 116], [107, 105, 110, 100], [99, 111, 108, 100], [112, 97, 115, 115], [105, 102], [110, 111, 116], [97, 110, 100], [111, 114]]
def strL : List (String × Nat × String × Nat) := [("PaneStreetModel", 226, "kind", 23), ("PaneStreetModel", 228, "cold", 24), ("PaneStreetModel", 230, "pass", 25), ("PaneStreetModel", 232, "if", 26), ("PaneStreetModel", 207, "not", 27), ("PaneStreetModel", 196, "owned", 14), ("PaneStreetModel", 202, "misty", 15), ("PaneStreetModel", 138, "walker", 8), ("PaneStreetModel", 133, "pane", 7), ("PaneStreetModel", 108, "oil", 9), ("PaneStreetModel", 191, "dark", 10), ("PaneStreetModel", 124, "taper", 11), ("PaneStreetModel", 148, "likes", 12), ("PaneStreetModel", 158, "hour", 13), ("PaneStreetModel", 219, "and", 28), ("PaneStreetModel", 224, "or", 29), ("PaneStreetModel", 110, "lit", 16), ("PaneStreetModel", 119, "at", 17), ("PaneStreetModel", 126, "owns", 18), ("PaneStreetModel", 131, "heads", 19), ("PaneStreetModel", 143, "way", 20), ("PaneStreetModel", 153, "fog", 21), ("PaneStreetModel", 160, "night", 22), ("PaneStreet$Term", 180, "misty", 15), ("PaneStreet$Term", 159, "walker", 8), ("PaneStreet$Term", 156, "pane", 7), ("PaneStreet$Term", 162, "oil", 9), ("PaneStreet$Term", 165, "dark", 10), ("PaneStreet$Term", 168, "taper", 11), ("PaneStreet$Term", 171, "likes", 12), ("PaneStreet$Term", 174, "hour", 13), ("PaneStreet$Term", 177, "owned", 14), ("PaneStreet$Term", 130, "", 0), ("PaneStreet$Term", 138, ";", 1), ("PaneStreet$Term", 183, "lit", 16), ("PaneStreet$Term", 186, "at", 17), ("PaneStreet$Term", 189, "owns", 18), ("PaneStreet$Term", 192, "heads", 19), ("PaneStreet$Term", 195, "way", 20), ("PaneStreet$Term", 198, "fog", 21), ("PaneStreet$Term", 201, "night", 22), ("PaneStreet$Term", 204, "kind", 23), ("PaneStreet$Term", 207, "cold", 24), ("PaneStreet$Term", 210, "pass", 25), ("PaneStreet$Term", 213, "if", 26), ("PaneStreet$Term", 216, "not", 27), ("PaneStreet$Term", 141, "(", 2), ("PaneStreet$Term", 144, ")", 3), ("PaneStreet$Term", 147, "+", 4), ("PaneStreet$Term", 150, "<", 5), ("PaneStreet$Term", 153, ">", 6), ("PaneStreet$Term", 219, "and", 28), ("PaneStreet$Term", 222, "or", 29)]
def msgL : List (String × Nat × String) := [("PaneStreet", 93, "the text of the street is wrong"), ("PaneStreet", 103, "there are twelve texts"), ("PaneStreet", 117, "the text of the law is wrong"), ("PaneStreet", 442, "there is no such pane"), ("PaneStreet", 163, "a pane has no such thing"), ("PaneStreet", 445, "there is no such walker"), ("PaneStreet", 190, "a walker has no such thing"), ("PaneStreet", 449, "both walkers are one"), ("PaneStreet", 447, "both panes are one"), ("PaneStreet", 451, "the number is none that can be"), ("PaneStreet", 241, "he can not light the lamp where he is"), ("PaneStreet", 247, "it is not burning, or nobody owns it"), ("PaneStreet", 290, "these are not panes to go round"), ("PaneStreet", 435, "these are not panes and hours ago"), ("PaneStreet", 340, "these are not rows of who lit whose lamp"), ("PaneStreet", 372, "there is no such thing ahead"), ("PaneStreet", 398, "a row of the log has no such thing")]
def okN (w : Cond) : Bool := match w with | .methodLinkNest .. => true | .fieldLinkNest .. => true | _ => false
/-- what holds of the tables and of the constants, at any state of the run -/
def Gf (E : GE) (U : State) : Prop :=
  va_K (gD E) vwCl (gTy E) U ∧
  ((∀ w ∈ nstL, va_Nw w U) ∧ (∀ x ∈ dclL, va_Nw (.declares x) U) ∧ (∀ q ∈ cstL, va_Nw (.castable q.1 q.2) U) ∧ (∀ q ∈ ncL, va_Nc q.1 q.2 U)) ∧
  (va_En "PaneStreet$Term" "LPaneStreet$Term;" tmN [("PaneStreet$Term", "fact", "I", fctL)] (gA E) (Fr E) U U.heap ∧ va_Ef 32 "PaneStreet$Term" "spelling" "Ljava/lang/String;" (fun i => .ref (gK E (spL.getD i 0))) (gA E) (Fr E) U U.heap) ∧
  (va_Z "PaneStreet$Term" "ALL" "[LPaneStreet$Term;" (.ref (gZ E)) (Fr E) U U.heap ∧ va_T (.object "PaneStreet$Term") (gZ E) 32 (fun i => .ref (gA E i)) (Fr E) U U.heap) ∧
  (vk_S txN txL txB (gK E) (gV E) (Fr E) U U.heap ∧ (∀ q ∈ strL, vk_R q.1 q.2.1 q.2.2.1 (gK E q.2.2.2) U) ∧ ∀ q ∈ msgL, ∃ a, vk_R q.1 q.2.1 q.2.2 a U) ∧
  (vx_Zq Bundle.tN "UNASSIGNED_STACK" Bundle.steD (Fr E) U U.heap ∧ vx_Zq Bundle.tN "SUPPRESSED_SENTINEL" Bundle.listD (Fr E) U U.heap ∧ va_Z "java/lang/String" "COMPACT_STRINGS" "Z" (.int 1) (Fr E) U U.heap ∧ va_Zq "jdk/internal/util/Preconditions" "SIOOBE_FORMATTER" "Ljava/util/function/BiFunction;" (Fr E) U U.heap)
theorem va_Nw.warmN {w : Cond} (hw : okN w = true) {s U : State} (hW : s.WarmedH U.vm) (hZ : va_Nw w s) : va_Nw w U := by
  cases w <;> first | exact va_Nw.warmF hW hZ | exact va_Nw.warmM hW hZ | cases hw
theorem nst_ok : ∀ w ∈ nstL, okN w = true := by decide +kernel
theorem Gf.warm {E : GE} {s U : State} (h : Gf E s) (hW : s.WarmedH U.vm) (hq : ∀ a : Nat, a < s.heap.size → ¬ Fr E a → U.heap[a]? = s.heap[a]?) : Gf E U := by
  obtain ⟨h1, ⟨h2, h3, h4, h5⟩, ⟨h6, h7⟩, ⟨h8, h9⟩, ⟨h10, h11, h12⟩, h13, h14, h15, h16⟩ := h
  have hA := hW.alike
  exact ⟨va_K.moved hA h1, ⟨fun w hw => va_Nw.warmN (nst_ok w hw) hW (h2 w hw), fun x hx => va_Nw.warmD hW (h3 x hx), fun q hq => va_Nw.warmC hW (h4 q hq), fun q hq => va_Nc.moved hA (h5 q hq)⟩,
    ⟨(va_En.moved hA h6).kept hq, (va_Ef.moved hA h7).kept hq⟩, ⟨(va_Z.moved hA h8).kept hq, (va_T.moved hA h9).kept hq⟩,
    ⟨(vk_S.moved hA h10).kept hq, fun q hq => vk_R.warm hW (h11 q hq), fun q hq => by obtain ⟨a, ha⟩ := h12 q hq; exact ⟨a, vk_R.warm hW ha⟩⟩, (vx_Zq.moved hA h13).kept hq, (vx_Zq.moved hA h14).kept hq, (va_Z.moved hA h15).kept hq, (va_Zq.moved hA h16).kept hq⟩
theorem Gf.same {E : GE} {s U : State} (h : Gf E s) (hv : U.vm = s.vm) (hh : U.heap = s.heap) : Gf E U := by
  obtain ⟨h1, ⟨h2, h3, h4, h5⟩, ⟨h6, h7⟩, ⟨h8, h9⟩, ⟨h10, h11, h12⟩, h13, h14, h15, h16⟩ := h
  have hA : s.vm.Alike U.vm := by rw [hv]; exact Vm.Alike.refl _
  have hN : ∀ w : Cond, w.onTables = true → va_Nw w s → va_Nw w U := fun w hw hz => va_Nw.same hw hv.symm hz
  rw [← hh] at h6 h7 h8 h9 h10 h13 h14 h15 h16
  exact ⟨va_K.moved hA h1, ⟨fun w hw => hN w (by have := nst_ok w hw; revert this; cases w <;> simp [okN, Cond.onTables]) (h2 w hw), fun x hx => hN _ rfl (h3 x hx), fun q hq => hN _ rfl (h4 q hq), fun q hq => va_Nc.moved hA (h5 q hq)⟩,
    ⟨va_En.moved hA h6, va_Ef.moved hA h7⟩, ⟨va_Z.moved hA h8, va_T.moved hA h9⟩, ⟨vk_S.moved hA h10, fun q hq => vk_R.same hv (h11 q hq), fun q hq => by obtain ⟨a, ha⟩ := h12 q hq; exact ⟨a, vk_R.same hv ha⟩⟩, vx_Zq.moved hA h13, vx_Zq.moved hA h14, va_Z.moved hA h15, va_Zq.moved hA h16⟩
theorem Gf.K {E : GE} {U : State} (h : Gf E U) : va_K (gD E) vwCl (gTy E) U := h.1
def Hx (E : GE) (σ : Mem) (s : State) (H : Heap) (locs : List Loc) : Prop := va_P (gD E) vwCl (ce E σ) H ∧ va_S (Fr E) s.heap H locs
def Wd (E : GE) (σ : Mem) (U : State) : Prop := va_P (gD E) vwCl (ce E σ) U.heap ∧ Gf E U
def We (E : GE) (σ : Mem) (t : State) : Prop := va_P (gD E) vwCl (ce E σ) t.heap
def RM (h : Nat) : Room := { frames := h, cells := 0, slots := 0, locals := 48 * h }
def RX (h K : Nat) : Room := { frames := h, cells := K, slots := 6 * K, locals := 48 * h }
theorem Wd.blind {E : GE} {σ : Mem} {As : List Value} : FrameBlind (va_Pc As (Wd E σ)) := fun a U g mk q => ⟨q.1, q.2.1, q.2.2.same rfl rfl⟩
def Cx (p : Program) (s : State) (m : MethodId) (args : Array Value) (meth : Method) (c : Code) (cc : ByteArray) (ret : Option FieldType) (nL : Nat) (own : String) : Prop :=
  p.tables.exec = Jvm.exec ∧ c.code = cc ∧ meth.sig.returnType = ret ∧ c.maxLocals = nL ∧ s.vm.findClass own = some m.cls ∧ (∀ w ∈ WU, w.before args s = true) ∧ meth.locks = false
theorem Hx.warm {E : GE} {σ : Mem} {s U : State} {H : Heap} {locs : List Loc} (X : Hx E σ s H locs) (G : Gf E s) (hU : U.heap = H) (hW : s.WarmedH U.vm) : Wd E σ U :=
  ⟨by rw [hU]; exact X.1, G.warm hW (fun a h1 h2 => by rw [hU]; exact X.2.2.1 a h1 h2)⟩
/-- contracts: an int, nothing -/
def CtI (l : Launch) (E : GE) (y : MethodName) (cc : ByteArray) (nL : Nat) (ty : FieldType) (h : Nat) (As : List Value) (σ : Mem) (r0 : Int32) (σ' : Mem) : Prop :=
  Met l y (.code y cc nL (some ty) :: WU) (RM h) (va_Pc As (Wd E σ)) (va_Qi (fun (r : Int32) (u : Mem) => r = r0 ∧ u = σ') (We E) (Fr E)) 0 0 (Fr E)
def CtV (l : Launch) (E : GE) (y : MethodName) (cc : ByteArray) (nL : Nat) (h : Nat) (As : List Value) (σ : Mem) (σ' : Mem) : Prop :=
  Met l y (.code y cc nL none :: WU) (RM h) (va_Pc As (Wd E σ)) (va_Qv (fun (u : Mem) => u = σ') (We E) (Fr E)) 0 0 (Fr E)
def CtL (l : Launch) (E : GE) (y : MethodName) (cc : ByteArray) (nL : Nat) (h : Nat) (As : List Value) (σ : Mem) (r0 : Int64) (σ' : Mem) : Prop :=
  Met l y (.code y cc nL (some .long) :: WU) (RM h) (va_Pc As (Wd E σ)) (va_Ql (fun (r : Int64) (u : Mem) => r = r0 ∧ u = σ') (We E) (Fr E)) 0 0 (Fr E)
def CtT (l : Launch) (E : GE) (y : MethodName) (cc : ByteArray) (nL : Nat) (ty : FieldType) (h : Nat) (As : List Value) (σ : Mem) (r0 : Int32) (σ' : Mem) : Prop :=
  Met l y (.code y cc nL (some ty) :: WU) (RM h) (va_Pc As (Wd E σ)) (va_Qq (fun (r : Option Nat) (u : Mem) => r = tO E r0 ∧ u = σ') (We E) (Fr E)) 0 0 (Fr E)
def CtO (l : Launch) (E : GE) (y : MethodName) (cc : ByteArray) (nL : Nat) (ty : FieldType) (h : Nat) (As : List Value) (σ : Mem) (r0 : Option Nat) (σ' : Mem) : Prop :=
  Met l y (.code y cc nL (some ty) :: WU) (RM h) (va_Pc As (Wd E σ)) (va_Qq (fun (r : Option Nat) (u : Mem) => r = r0.map (fun k => gB E + k) ∧ u = σ') (We E) (Fr E)) 0 0 (Fr E)
def exN (x : Nat) : String := match x with | 1 => "java/lang/IndexOutOfBoundsException" | 2 => "java/lang/IllegalArgumentException" | 3 => "java/lang/IllegalStateException" | 4 => "java/util/NoSuchElementException" | _ => "java/lang/UnsupportedOperationException"
def CtX (l : Launch) (E : GE) (y : MethodName) (cc : ByteArray) (nL : Nat) (ty : FieldType) (h K : Nat) (As : List Value) (σ : Mem) (r0 : Int32 ⊕ Nat) (σ' : Mem) : Prop :=
  vx_Met l y (.code y cc nL (some ty) :: WU) (RX h K) (va_Pc As (Wd E σ)) (va_Qi (fun (r : Int32) (u : Mem) => .inl r = r0 ∧ u = σ') (We E) (Fr E)) (vx_X (fun (q : Nat × Mem) => .inr q.1 = r0 ∧ q.2 = σ') (fun N q t => N = exN q.1 ∧ We E q.2 t) (Fr E)) K (6 * K) (Fr E)
def CtXV (l : Launch) (E : GE) (y : MethodName) (cc : ByteArray) (nL : Nat) (h K : Nat) (As : List Value) (σ : Mem) (r0 : Int32 ⊕ Nat) (σ' : Mem) : Prop :=
  vx_Met l y (.code y cc nL none :: WU) (RX h K) (va_Pc As (Wd E σ)) (va_Qv (fun (u : Mem) => .inl 0 = r0 ∧ u = σ') (We E) (Fr E)) (vx_X (fun (q : Nat × Mem) => .inr q.1 = r0 ∧ q.2 = σ') (fun N q t => N = exN q.1 ∧ We E q.2 t) (Fr E)) K (6 * K) (Fr E)

theorem ce0 {E : GE} {σ : Mem} {H : Heap} (h : va_P (gD E) vwCl (ce E σ) H) : gB E ≤ H.size := by
  have := (h 0 _ (ce_at (by decide))).lt
  exact Nat.le_of_lt this
theorem Hx.A {E : GE} {σ : Mem} {s : State} (h : va_P (gD E) vwCl (ce E σ) s.heap) : ∀ q : Nat, s.heap.size ≤ q → Fr E q := fun q hq => Nat.le_trans (ce0 h) hq

section ROWS
variable {p : Program} {l : Launch} {e : Env} {R : Room} {s : State} {m : MethodId} {args : Array Value} {below : List Frame} {meth : Method} {c : Code} {H : Heap} {locs : List Loc} {cells slots : Nat} {Q : State → Prop}
variable {cc : ByteArray} {nL pc : Nat} {ls : Array Slot} {rest : List Value} {E : GE} {σ : Mem} {own : String} {ret : Option FieldType}
theorem Cx.hown (C : Cx p s m args meth c cc ret nL own) : s.vm.findClass own = some m.cls := C.2.2.2.2.1
theorem Cx.ts (C : Cx p s m args meth c cc ret nL own) : ∀ w ∈ WU, w.before args s = true := C.2.2.2.2.2.1
theorem Cx.ml (C : Cx p s m args meth c cc ret nL own) : c.maxLocals = nL := C.2.2.2.1
theorem Cx.lk (C : Cx p s m args meth c cc ret nL own) : meth.locks = false := C.2.2.2.2.2.2
theorem Cx.fix (C : Cx p s m args meth c cc ret nL own) : CallFix p m c cc nL s args WU own := ⟨C.1, C.2.1, C.ml, C.hown, C.ts⟩

theorem inX6 : ∀ w ∈ u_ws RX6 TX6 1, w ∈ WU := by
  have h : (u_ws RX6 TX6 1).all (fun w => decide (w ∈ lw_tbl) && goodWord w) = true := by decide +kernel
  intro w hw
  have := List.all_eq_true.mp h w hw
  simp only [Bool.and_eq_true, decide_eq_true_eq] at this
  exact List.mem_filter.mpr this
theorem gfX6 (C : Cx p s m args meth c cc ret nL own) (G : Gf E s) (X : Hx E σ s H locs) {k : Nat} (hk : kd k = 1) (i : Nat) {v : Value} {fs : List Value} {index : Nat} (he : cell0 E k (σ k) 1 = .inr (5, fs)) (hv : fs[i]? = some v) (hi : i < 1) (hl : Cond.fieldLink own index RX6 (TX6 i).2.1 (TX6 i).2.2.1 ∈ WU) (hs : (TX6 i).1 = RX6) (d : decode cc pc = .ok (.getfield index, 3)) (kk : W p l e R s m args below meth c H locs cells slots Q (F0 m (pc + 3) ls (v :: rest))) : W p l e R s m args below meth c H locs cells slots Q (F0 m pc ls (.ref (gB E + k) :: rest)) :=
  va_get C.1 C.2.1 C.ts inX6 C.hown G.K X.1 k ((ce_k 1 hk (by decide)).trans (by rw [he])) (show vwCl[5]? = some (RX6, TX6, 1) from rfl) i hi (C.ts _ hl) (fun x hx => by rw [hs] at hx; exact hx) hv d kk
theorem pfX6 (C : Cx p s m args meth c cc ret nL own) (G : Gf E s) (X : Hx E σ s H locs) {k : Nat} (hk : kd k = 1) (i : Nat) {x : Int32} {ty : FieldType} {fs : List Value} {index : Nat} (he : cell0 E k (σ k) 1 = .inr (5, fs)) (he2 : .inr (5, fs.set i (.int x)) = cell0 E k (upd (σ k) i x) 1) (hlen : i < fs.length) (hi : i < 1) (hl : Cond.fieldLink own index RX6 (TX6 i).2.1 (TX6 i).2.2.1 ∈ WU) (hs : (TX6 i).1 = RX6) (hf : (TX6 i).2.2.2 = false) (hd : parseFieldDescriptor (TX6 i).2.2.1 = some ty) (hn : narrow ty (.int x) = .int x) (hfit : fits ty (.int x) = true) (d : decode cc pc = .ok (.putfield index, 3)) (kk : ∀ (H1 : Heap) (locs1 : List Loc), Hx E (st σ k i x) s H1 locs1 → W p l e R s m args below meth c H1 locs1 cells slots Q (F0 m (pc + 3) ls rest)) : W p l e R s m args below meth c H locs cells slots Q (F0 m pc ls (.int x :: .ref (gB E + k) :: rest)) :=
  va_put C.1 C.2.1 C.ts inX6 tyX6 tyX6_ok nmX6 C.hown G.K X.1 ceD X.2 k ((ce_k 1 hk (by decide)).trans (by rw [he])) (show vwCl[5]? = some (RX6, TX6, 1) from rfl) i hi (C.ts _ hl) (fun x hx => by rw [hs] at hx; exact hx) hf hd hn hfit hlen d (fun H1 locs1 h1 _ h3 => kk H1 locs1 ⟨by rw [he2, ce_sr hk (by decide) rfl] at h1; exact h1, h3⟩)
theorem rcX6 (G : Gf E s) (X : Hx E σ s H locs) {k : Nat} (hk : kd k = 1) : ∃ cell : Cell, H[gB E + k]? = some cell ∧ cell.vm.isStatics = false ∧ s.vm.findClass RX6 = some cell.cls :=
  va_recv G.K X.1 (show vwCl[5]? = some (RX6, TX6, 1) from rfl) (ce_k 1 hk (by decide))
theorem inX7 : ∀ w ∈ u_ws RX7 TX7 20, w ∈ WU := by
  have h : (u_ws RX7 TX7 20).all (fun w => decide (w ∈ lw_tbl) && goodWord w) = true := by decide +kernel
  intro w hw
  have := List.all_eq_true.mp h w hw
  simp only [Bool.and_eq_true, decide_eq_true_eq] at this
  exact List.mem_filter.mpr this
theorem gfX7 (C : Cx p s m args meth c cc ret nL own) (G : Gf E s) (X : Hx E σ s H locs) {k : Nat} (hk : kd k = 2) (i : Nat) {v : Value} {fs : List Value} {index : Nat} (he : cell0 E k (σ k) 2 = .inr (6, fs)) (hv : fs[i]? = some v) (hi : i < 20) (hl : Cond.fieldLink own index RX7 (TX7 i).2.1 (TX7 i).2.2.1 ∈ WU) (hs : (TX7 i).1 = RX7) (d : decode cc pc = .ok (.getfield index, 3)) (kk : W p l e R s m args below meth c H locs cells slots Q (F0 m (pc + 3) ls (v :: rest))) : W p l e R s m args below meth c H locs cells slots Q (F0 m pc ls (.ref (gB E + k) :: rest)) :=
  va_get C.1 C.2.1 C.ts inX7 C.hown G.K X.1 k ((ce_k 2 hk (by decide)).trans (by rw [he])) (show vwCl[6]? = some (RX7, TX7, 20) from rfl) i hi (C.ts _ hl) (fun x hx => by rw [hs] at hx; exact hx) hv d kk
theorem pfX7 (C : Cx p s m args meth c cc ret nL own) (G : Gf E s) (X : Hx E σ s H locs) {k : Nat} (hk : kd k = 2) (i : Nat) {x : Int32} {ty : FieldType} {fs : List Value} {index : Nat} (he : cell0 E k (σ k) 2 = .inr (6, fs)) (he2 : .inr (6, fs.set i (.int x)) = cell0 E k (upd (σ k) i x) 2) (hlen : i < fs.length) (hi : i < 20) (hl : Cond.fieldLink own index RX7 (TX7 i).2.1 (TX7 i).2.2.1 ∈ WU) (hs : (TX7 i).1 = RX7) (hf : (TX7 i).2.2.2 = false) (hd : parseFieldDescriptor (TX7 i).2.2.1 = some ty) (hn : narrow ty (.int x) = .int x) (hfit : fits ty (.int x) = true) (d : decode cc pc = .ok (.putfield index, 3)) (kk : ∀ (H1 : Heap) (locs1 : List Loc), Hx E (st σ k i x) s H1 locs1 → W p l e R s m args below meth c H1 locs1 cells slots Q (F0 m (pc + 3) ls rest)) : W p l e R s m args below meth c H locs cells slots Q (F0 m pc ls (.int x :: .ref (gB E + k) :: rest)) :=
  va_put C.1 C.2.1 C.ts inX7 tyX7 tyX7_ok nmX7 C.hown G.K X.1 ceD X.2 k ((ce_k 2 hk (by decide)).trans (by rw [he])) (show vwCl[6]? = some (RX7, TX7, 20) from rfl) i hi (C.ts _ hl) (fun x hx => by rw [hs] at hx; exact hx) hf hd hn hfit hlen d (fun H1 locs1 h1 _ h3 => kk H1 locs1 ⟨by rw [he2, ce_sr hk (by decide) rfl] at h1; exact h1, h3⟩)
theorem rcX7 (G : Gf E s) (X : Hx E σ s H locs) {k : Nat} (hk : kd k = 2) : ∃ cell : Cell, H[gB E + k]? = some cell ∧ cell.vm.isStatics = false ∧ s.vm.findClass RX7 = some cell.cls :=
  va_recv G.K X.1 (show vwCl[6]? = some (RX7, TX7, 20) from rfl) (ce_k 2 hk (by decide))
theorem inX3 : ∀ w ∈ u_ws RX3 TX3 8, w ∈ WU := by
  have h : (u_ws RX3 TX3 8).all (fun w => decide (w ∈ lw_tbl) && goodWord w) = true := by decide +kernel
  intro w hw
  have := List.all_eq_true.mp h w hw
  simp only [Bool.and_eq_true, decide_eq_true_eq] at this
  exact List.mem_filter.mpr this
theorem gfX3 (C : Cx p s m args meth c cc ret nL own) (G : Gf E s) (X : Hx E σ s H locs) {k : Nat} (hk : kd k = 3) (i : Nat) {v : Value} {fs : List Value} {index : Nat} (he : cell0 E k (σ k) 3 = .inr (3, fs)) (hv : fs[i]? = some v) (hi : i < 8) (hl : Cond.fieldLink own index RX3 (TX3 i).2.1 (TX3 i).2.2.1 ∈ WU) (hs : (TX3 i).1 = RX3) (d : decode cc pc = .ok (.getfield index, 3)) (kk : W p l e R s m args below meth c H locs cells slots Q (F0 m (pc + 3) ls (v :: rest))) : W p l e R s m args below meth c H locs cells slots Q (F0 m pc ls (.ref (gB E + k) :: rest)) :=
  va_get C.1 C.2.1 C.ts inX3 C.hown G.K X.1 k ((ce_k 3 hk (by decide)).trans (by rw [he])) (show vwCl[3]? = some (RX3, TX3, 8) from rfl) i hi (C.ts _ hl) (fun x hx => by rw [hs] at hx; exact hx) hv d kk
theorem pfX3 (C : Cx p s m args meth c cc ret nL own) (G : Gf E s) (X : Hx E σ s H locs) {k : Nat} (hk : kd k = 3) (i : Nat) {x : Int32} {ty : FieldType} {fs : List Value} {index : Nat} (he : cell0 E k (σ k) 3 = .inr (3, fs)) (he2 : .inr (3, fs.set i (.int x)) = cell0 E k (upd (σ k) i x) 3) (hlen : i < fs.length) (hi : i < 8) (hl : Cond.fieldLink own index RX3 (TX3 i).2.1 (TX3 i).2.2.1 ∈ WU) (hs : (TX3 i).1 = RX3) (hf : (TX3 i).2.2.2 = false) (hd : parseFieldDescriptor (TX3 i).2.2.1 = some ty) (hn : narrow ty (.int x) = .int x) (hfit : fits ty (.int x) = true) (d : decode cc pc = .ok (.putfield index, 3)) (kk : ∀ (H1 : Heap) (locs1 : List Loc), Hx E (st σ k i x) s H1 locs1 → W p l e R s m args below meth c H1 locs1 cells slots Q (F0 m (pc + 3) ls rest)) : W p l e R s m args below meth c H locs cells slots Q (F0 m pc ls (.int x :: .ref (gB E + k) :: rest)) :=
  va_put C.1 C.2.1 C.ts inX3 tyX3 tyX3_ok nmX3 C.hown G.K X.1 ceD X.2 k ((ce_k 3 hk (by decide)).trans (by rw [he])) (show vwCl[3]? = some (RX3, TX3, 8) from rfl) i hi (C.ts _ hl) (fun x hx => by rw [hs] at hx; exact hx) hf hd hn hfit hlen d (fun H1 locs1 h1 _ h3 => kk H1 locs1 ⟨by rw [he2, ce_sr hk (by decide) rfl] at h1; exact h1, h3⟩)
theorem rcX3 (G : Gf E s) (X : Hx E σ s H locs) {k : Nat} (hk : kd k = 3) : ∃ cell : Cell, H[gB E + k]? = some cell ∧ cell.vm.isStatics = false ∧ s.vm.findClass RX3 = some cell.cls :=
  va_recv G.K X.1 (show vwCl[3]? = some (RX3, TX3, 8) from rfl) (ce_k 3 hk (by decide))
theorem inX10 : ∀ w ∈ u_ws RX10 TX10 7, w ∈ WU := by
  have h : (u_ws RX10 TX10 7).all (fun w => decide (w ∈ lw_tbl) && goodWord w) = true := by decide +kernel
  intro w hw
  have := List.all_eq_true.mp h w hw
  simp only [Bool.and_eq_true, decide_eq_true_eq] at this
  exact List.mem_filter.mpr this
theorem gfX10 (C : Cx p s m args meth c cc ret nL own) (G : Gf E s) (X : Hx E σ s H locs) {k : Nat} (hk : kd k = 4) (i : Nat) {v : Value} {fs : List Value} {index : Nat} (he : cell0 E k (σ k) 4 = .inr (7, fs)) (hv : fs[i]? = some v) (hi : i < 7) (hl : Cond.fieldLink own index RX10 (TX10 i).2.1 (TX10 i).2.2.1 ∈ WU) (hs : (TX10 i).1 = RX10) (d : decode cc pc = .ok (.getfield index, 3)) (kk : W p l e R s m args below meth c H locs cells slots Q (F0 m (pc + 3) ls (v :: rest))) : W p l e R s m args below meth c H locs cells slots Q (F0 m pc ls (.ref (gB E + k) :: rest)) :=
  va_get C.1 C.2.1 C.ts inX10 C.hown G.K X.1 k ((ce_k 4 hk (by decide)).trans (by rw [he])) (show vwCl[7]? = some (RX10, TX10, 7) from rfl) i hi (C.ts _ hl) (fun x hx => by rw [hs] at hx; exact hx) hv d kk
theorem pfX10 (C : Cx p s m args meth c cc ret nL own) (G : Gf E s) (X : Hx E σ s H locs) {k : Nat} (hk : kd k = 4) (i : Nat) {x : Int32} {ty : FieldType} {fs : List Value} {index : Nat} (he : cell0 E k (σ k) 4 = .inr (7, fs)) (he2 : .inr (7, fs.set i (.int x)) = cell0 E k (upd (σ k) i x) 4) (hlen : i < fs.length) (hi : i < 7) (hl : Cond.fieldLink own index RX10 (TX10 i).2.1 (TX10 i).2.2.1 ∈ WU) (hs : (TX10 i).1 = RX10) (hf : (TX10 i).2.2.2 = false) (hd : parseFieldDescriptor (TX10 i).2.2.1 = some ty) (hn : narrow ty (.int x) = .int x) (hfit : fits ty (.int x) = true) (d : decode cc pc = .ok (.putfield index, 3)) (kk : ∀ (H1 : Heap) (locs1 : List Loc), Hx E (st σ k i x) s H1 locs1 → W p l e R s m args below meth c H1 locs1 cells slots Q (F0 m (pc + 3) ls rest)) : W p l e R s m args below meth c H locs cells slots Q (F0 m pc ls (.int x :: .ref (gB E + k) :: rest)) :=
  va_put C.1 C.2.1 C.ts inX10 tyX10 tyX10_ok nmX10 C.hown G.K X.1 ceD X.2 k ((ce_k 4 hk (by decide)).trans (by rw [he])) (show vwCl[7]? = some (RX10, TX10, 7) from rfl) i hi (C.ts _ hl) (fun x hx => by rw [hs] at hx; exact hx) hf hd hn hfit hlen d (fun H1 locs1 h1 _ h3 => kk H1 locs1 ⟨by rw [he2, ce_sr hk (by decide) rfl] at h1; exact h1, h3⟩)
theorem rcX10 (G : Gf E s) (X : Hx E σ s H locs) {k : Nat} (hk : kd k = 4) : ∃ cell : Cell, H[gB E + k]? = some cell ∧ cell.vm.isStatics = false ∧ s.vm.findClass RX10 = some cell.cls :=
  va_recv G.K X.1 (show vwCl[7]? = some (RX10, TX10, 7) from rfl) (ce_k 4 hk (by decide))
theorem inX2 : ∀ w ∈ u_ws RX2 TX2 3, w ∈ WU := by
  have h : (u_ws RX2 TX2 3).all (fun w => decide (w ∈ lw_tbl) && goodWord w) = true := by decide +kernel
  intro w hw
  have := List.all_eq_true.mp h w hw
  simp only [Bool.and_eq_true, decide_eq_true_eq] at this
  exact List.mem_filter.mpr this
theorem gfX2 (C : Cx p s m args meth c cc ret nL own) (G : Gf E s) (X : Hx E σ s H locs) {k : Nat} (hk : kd k = 5) (i : Nat) {v : Value} {fs : List Value} {index : Nat} (he : cell0 E k (σ k) 5 = .inr (2, fs)) (hv : fs[i]? = some v) (hi : i < 3) (hl : Cond.fieldLink own index RX2 (TX2 i).2.1 (TX2 i).2.2.1 ∈ WU) (hs : (TX2 i).1 = RX2) (d : decode cc pc = .ok (.getfield index, 3)) (kk : W p l e R s m args below meth c H locs cells slots Q (F0 m (pc + 3) ls (v :: rest))) : W p l e R s m args below meth c H locs cells slots Q (F0 m pc ls (.ref (gB E + k) :: rest)) :=
  va_get C.1 C.2.1 C.ts inX2 C.hown G.K X.1 k ((ce_k 5 hk (by decide)).trans (by rw [he])) (show vwCl[2]? = some (RX2, TX2, 3) from rfl) i hi (C.ts _ hl) (fun x hx => by rw [hs] at hx; exact hx) hv d kk
theorem pfX2 (C : Cx p s m args meth c cc ret nL own) (G : Gf E s) (X : Hx E σ s H locs) {k : Nat} (hk : kd k = 5) (i : Nat) {x : Int32} {ty : FieldType} {fs : List Value} {index : Nat} (he : cell0 E k (σ k) 5 = .inr (2, fs)) (he2 : .inr (2, fs.set i (.int x)) = cell0 E k (upd (σ k) i x) 5) (hlen : i < fs.length) (hi : i < 3) (hl : Cond.fieldLink own index RX2 (TX2 i).2.1 (TX2 i).2.2.1 ∈ WU) (hs : (TX2 i).1 = RX2) (hf : (TX2 i).2.2.2 = false) (hd : parseFieldDescriptor (TX2 i).2.2.1 = some ty) (hn : narrow ty (.int x) = .int x) (hfit : fits ty (.int x) = true) (d : decode cc pc = .ok (.putfield index, 3)) (kk : ∀ (H1 : Heap) (locs1 : List Loc), Hx E (st σ k i x) s H1 locs1 → W p l e R s m args below meth c H1 locs1 cells slots Q (F0 m (pc + 3) ls rest)) : W p l e R s m args below meth c H locs cells slots Q (F0 m pc ls (.int x :: .ref (gB E + k) :: rest)) :=
  va_put C.1 C.2.1 C.ts inX2 tyX2 tyX2_ok nmX2 C.hown G.K X.1 ceD X.2 k ((ce_k 5 hk (by decide)).trans (by rw [he])) (show vwCl[2]? = some (RX2, TX2, 3) from rfl) i hi (C.ts _ hl) (fun x hx => by rw [hs] at hx; exact hx) hf hd hn hfit hlen d (fun H1 locs1 h1 _ h3 => kk H1 locs1 ⟨by rw [he2, ce_sr hk (by decide) rfl] at h1; exact h1, h3⟩)
theorem rcX2 (G : Gf E s) (X : Hx E σ s H locs) {k : Nat} (hk : kd k = 5) : ∃ cell : Cell, H[gB E + k]? = some cell ∧ cell.vm.isStatics = false ∧ s.vm.findClass RX2 = some cell.cls :=
  va_recv G.K X.1 (show vwCl[2]? = some (RX2, TX2, 3) from rfl) (ce_k 5 hk (by decide))
theorem inX0 : ∀ w ∈ u_ws RX0 TX0 1, w ∈ WU := by
  have h : (u_ws RX0 TX0 1).all (fun w => decide (w ∈ lw_tbl) && goodWord w) = true := by decide +kernel
  intro w hw
  have := List.all_eq_true.mp h w hw
  simp only [Bool.and_eq_true, decide_eq_true_eq] at this
  exact List.mem_filter.mpr this
theorem gfX0 (C : Cx p s m args meth c cc ret nL own) (G : Gf E s) (X : Hx E σ s H locs) {k : Nat} (hk : kd k = 6) (i : Nat) {v : Value} {fs : List Value} {index : Nat} (he : cell0 E k (σ k) 6 = .inr (0, fs)) (hv : fs[i]? = some v) (hi : i < 1) (hl : Cond.fieldLink own index RX0 (TX0 i).2.1 (TX0 i).2.2.1 ∈ WU) (hs : (TX0 i).1 = RX0) (d : decode cc pc = .ok (.getfield index, 3)) (kk : W p l e R s m args below meth c H locs cells slots Q (F0 m (pc + 3) ls (v :: rest))) : W p l e R s m args below meth c H locs cells slots Q (F0 m pc ls (.ref (gB E + k) :: rest)) :=
  va_get C.1 C.2.1 C.ts inX0 C.hown G.K X.1 k ((ce_k 6 hk (by decide)).trans (by rw [he])) (show vwCl[0]? = some (RX0, TX0, 1) from rfl) i hi (C.ts _ hl) (fun x hx => by rw [hs] at hx; exact hx) hv d kk
theorem pfX0 (C : Cx p s m args meth c cc ret nL own) (G : Gf E s) (X : Hx E σ s H locs) {k : Nat} (hk : kd k = 6) (i : Nat) {x : Int32} {ty : FieldType} {fs : List Value} {index : Nat} (he : cell0 E k (σ k) 6 = .inr (0, fs)) (he2 : .inr (0, fs.set i (.int x)) = cell0 E k (upd (σ k) i x) 6) (hlen : i < fs.length) (hi : i < 1) (hl : Cond.fieldLink own index RX0 (TX0 i).2.1 (TX0 i).2.2.1 ∈ WU) (hs : (TX0 i).1 = RX0) (hf : (TX0 i).2.2.2 = false) (hd : parseFieldDescriptor (TX0 i).2.2.1 = some ty) (hn : narrow ty (.int x) = .int x) (hfit : fits ty (.int x) = true) (d : decode cc pc = .ok (.putfield index, 3)) (kk : ∀ (H1 : Heap) (locs1 : List Loc), Hx E (st σ k i x) s H1 locs1 → W p l e R s m args below meth c H1 locs1 cells slots Q (F0 m (pc + 3) ls rest)) : W p l e R s m args below meth c H locs cells slots Q (F0 m pc ls (.int x :: .ref (gB E + k) :: rest)) :=
  va_put C.1 C.2.1 C.ts inX0 tyX0 tyX0_ok nmX0 C.hown G.K X.1 ceD X.2 k ((ce_k 6 hk (by decide)).trans (by rw [he])) (show vwCl[0]? = some (RX0, TX0, 1) from rfl) i hi (C.ts _ hl) (fun x hx => by rw [hs] at hx; exact hx) hf hd hn hfit hlen d (fun H1 locs1 h1 _ h3 => kk H1 locs1 ⟨by rw [he2, ce_sr hk (by decide) rfl] at h1; exact h1, h3⟩)
theorem rcX0 (G : Gf E s) (X : Hx E σ s H locs) {k : Nat} (hk : kd k = 6) : ∃ cell : Cell, H[gB E + k]? = some cell ∧ cell.vm.isStatics = false ∧ s.vm.findClass RX0 = some cell.cls :=
  va_recv G.K X.1 (show vwCl[0]? = some (RX0, TX0, 1) from rfl) (ce_k 6 hk (by decide))
theorem inX5 : ∀ w ∈ u_ws RX5 TX5 4, w ∈ WU := by
  have h : (u_ws RX5 TX5 4).all (fun w => decide (w ∈ lw_tbl) && goodWord w) = true := by decide +kernel
  intro w hw
  have := List.all_eq_true.mp h w hw
  simp only [Bool.and_eq_true, decide_eq_true_eq] at this
  exact List.mem_filter.mpr this
theorem gfX5 (C : Cx p s m args meth c cc ret nL own) (G : Gf E s) (X : Hx E σ s H locs) {k : Nat} (hk : kd k = 7) (i : Nat) {v : Value} {fs : List Value} {index : Nat} (he : cell0 E k (σ k) 7 = .inr (4, fs)) (hv : fs[i]? = some v) (hi : i < 4) (hl : Cond.fieldLink own index RX5 (TX5 i).2.1 (TX5 i).2.2.1 ∈ WU) (hs : (TX5 i).1 = RX5) (d : decode cc pc = .ok (.getfield index, 3)) (kk : W p l e R s m args below meth c H locs cells slots Q (F0 m (pc + 3) ls (v :: rest))) : W p l e R s m args below meth c H locs cells slots Q (F0 m pc ls (.ref (gB E + k) :: rest)) :=
  va_get C.1 C.2.1 C.ts inX5 C.hown G.K X.1 k ((ce_k 7 hk (by decide)).trans (by rw [he])) (show vwCl[4]? = some (RX5, TX5, 4) from rfl) i hi (C.ts _ hl) (fun x hx => by rw [hs] at hx; exact hx) hv d kk
theorem pfX5 (C : Cx p s m args meth c cc ret nL own) (G : Gf E s) (X : Hx E σ s H locs) {k : Nat} (hk : kd k = 7) (i : Nat) {x : Int32} {ty : FieldType} {fs : List Value} {index : Nat} (he : cell0 E k (σ k) 7 = .inr (4, fs)) (he2 : .inr (4, fs.set i (.int x)) = cell0 E k (upd (σ k) i x) 7) (hlen : i < fs.length) (hi : i < 4) (hl : Cond.fieldLink own index RX5 (TX5 i).2.1 (TX5 i).2.2.1 ∈ WU) (hs : (TX5 i).1 = RX5) (hf : (TX5 i).2.2.2 = false) (hd : parseFieldDescriptor (TX5 i).2.2.1 = some ty) (hn : narrow ty (.int x) = .int x) (hfit : fits ty (.int x) = true) (d : decode cc pc = .ok (.putfield index, 3)) (kk : ∀ (H1 : Heap) (locs1 : List Loc), Hx E (st σ k i x) s H1 locs1 → W p l e R s m args below meth c H1 locs1 cells slots Q (F0 m (pc + 3) ls rest)) : W p l e R s m args below meth c H locs cells slots Q (F0 m pc ls (.int x :: .ref (gB E + k) :: rest)) :=
  va_put C.1 C.2.1 C.ts inX5 tyX5 tyX5_ok nmX5 C.hown G.K X.1 ceD X.2 k ((ce_k 7 hk (by decide)).trans (by rw [he])) (show vwCl[4]? = some (RX5, TX5, 4) from rfl) i hi (C.ts _ hl) (fun x hx => by rw [hs] at hx; exact hx) hf hd hn hfit hlen d (fun H1 locs1 h1 _ h3 => kk H1 locs1 ⟨by rw [he2, ce_sr hk (by decide) rfl] at h1; exact h1, h3⟩)
theorem rcX5 (G : Gf E s) (X : Hx E σ s H locs) {k : Nat} (hk : kd k = 7) : ∃ cell : Cell, H[gB E + k]? = some cell ∧ cell.vm.isStatics = false ∧ s.vm.findClass RX5 = some cell.cls :=
  va_recv G.K X.1 (show vwCl[4]? = some (RX5, TX5, 4) from rfl) (ce_k 7 hk (by decide))
theorem inX1 : ∀ w ∈ u_ws RX1 TX1 1, w ∈ WU := by
  have h : (u_ws RX1 TX1 1).all (fun w => decide (w ∈ lw_tbl) && goodWord w) = true := by decide +kernel
  intro w hw
  have := List.all_eq_true.mp h w hw
  simp only [Bool.and_eq_true, decide_eq_true_eq] at this
  exact List.mem_filter.mpr this
theorem gfX1 (C : Cx p s m args meth c cc ret nL own) (G : Gf E s) (X : Hx E σ s H locs) {k : Nat} (hk : kd k = 8) (i : Nat) {v : Value} {fs : List Value} {index : Nat} (he : cell0 E k (σ k) 8 = .inr (1, fs)) (hv : fs[i]? = some v) (hi : i < 1) (hl : Cond.fieldLink own index RX1 (TX1 i).2.1 (TX1 i).2.2.1 ∈ WU) (hs : (TX1 i).1 = RX1) (d : decode cc pc = .ok (.getfield index, 3)) (kk : W p l e R s m args below meth c H locs cells slots Q (F0 m (pc + 3) ls (v :: rest))) : W p l e R s m args below meth c H locs cells slots Q (F0 m pc ls (.ref (gB E + k) :: rest)) :=
  va_get C.1 C.2.1 C.ts inX1 C.hown G.K X.1 k ((ce_k 8 hk (by decide)).trans (by rw [he])) (show vwCl[1]? = some (RX1, TX1, 1) from rfl) i hi (C.ts _ hl) (fun x hx => by rw [hs] at hx; exact hx) hv d kk
theorem pfX1 (C : Cx p s m args meth c cc ret nL own) (G : Gf E s) (X : Hx E σ s H locs) {k : Nat} (hk : kd k = 8) (i : Nat) {x : Int32} {ty : FieldType} {fs : List Value} {index : Nat} (he : cell0 E k (σ k) 8 = .inr (1, fs)) (he2 : .inr (1, fs.set i (.int x)) = cell0 E k (upd (σ k) i x) 8) (hlen : i < fs.length) (hi : i < 1) (hl : Cond.fieldLink own index RX1 (TX1 i).2.1 (TX1 i).2.2.1 ∈ WU) (hs : (TX1 i).1 = RX1) (hf : (TX1 i).2.2.2 = false) (hd : parseFieldDescriptor (TX1 i).2.2.1 = some ty) (hn : narrow ty (.int x) = .int x) (hfit : fits ty (.int x) = true) (d : decode cc pc = .ok (.putfield index, 3)) (kk : ∀ (H1 : Heap) (locs1 : List Loc), Hx E (st σ k i x) s H1 locs1 → W p l e R s m args below meth c H1 locs1 cells slots Q (F0 m (pc + 3) ls rest)) : W p l e R s m args below meth c H locs cells slots Q (F0 m pc ls (.int x :: .ref (gB E + k) :: rest)) :=
  va_put C.1 C.2.1 C.ts inX1 tyX1 tyX1_ok nmX1 C.hown G.K X.1 ceD X.2 k ((ce_k 8 hk (by decide)).trans (by rw [he])) (show vwCl[1]? = some (RX1, TX1, 1) from rfl) i hi (C.ts _ hl) (fun x hx => by rw [hs] at hx; exact hx) hf hd hn hfit hlen d (fun H1 locs1 h1 _ h3 => kk H1 locs1 ⟨by rw [he2, ce_sr hk (by decide) rfl] at h1; exact h1, h3⟩)
theorem rcX1 (G : Gf E s) (X : Hx E σ s H locs) {k : Nat} (hk : kd k = 8) : ∃ cell : Cell, H[gB E + k]? = some cell ∧ cell.vm.isStatics = false ∧ s.vm.findClass RX1 = some cell.cls :=
  va_recv G.K X.1 (show vwCl[1]? = some (RX1, TX1, 1) from rfl) (ce_k 8 hk (by decide))
theorem inX11 : ∀ w ∈ u_ws RX11 TX11 12, w ∈ WU := by
  have h : (u_ws RX11 TX11 12).all (fun w => decide (w ∈ lw_tbl) && goodWord w) = true := by decide +kernel
  intro w hw
  have := List.all_eq_true.mp h w hw
  simp only [Bool.and_eq_true, decide_eq_true_eq] at this
  exact List.mem_filter.mpr this
theorem gfX11 (C : Cx p s m args meth c cc ret nL own) (G : Gf E s) (X : Hx E σ s H locs) {k : Nat} (hk : kd k = 9) (i : Nat) {v : Value} {fs : List Value} {index : Nat} (he : cell0 E k (σ k) 9 = .inr (8, fs)) (hv : fs[i]? = some v) (hi : i < 12) (hl : Cond.fieldLink own index RX11 (TX11 i).2.1 (TX11 i).2.2.1 ∈ WU) (hs : (TX11 i).1 = RX11) (d : decode cc pc = .ok (.getfield index, 3)) (kk : W p l e R s m args below meth c H locs cells slots Q (F0 m (pc + 3) ls (v :: rest))) : W p l e R s m args below meth c H locs cells slots Q (F0 m pc ls (.ref (gB E + k) :: rest)) :=
  va_get C.1 C.2.1 C.ts inX11 C.hown G.K X.1 k ((ce_k 9 hk (by decide)).trans (by rw [he])) (show vwCl[8]? = some (RX11, TX11, 12) from rfl) i hi (C.ts _ hl) (fun x hx => by rw [hs] at hx; exact hx) hv d kk
theorem pfX11 (C : Cx p s m args meth c cc ret nL own) (G : Gf E s) (X : Hx E σ s H locs) {k : Nat} (hk : kd k = 9) (i : Nat) {x : Int32} {ty : FieldType} {fs : List Value} {index : Nat} (he : cell0 E k (σ k) 9 = .inr (8, fs)) (he2 : .inr (8, fs.set i (.int x)) = cell0 E k (upd (σ k) i x) 9) (hlen : i < fs.length) (hi : i < 12) (hl : Cond.fieldLink own index RX11 (TX11 i).2.1 (TX11 i).2.2.1 ∈ WU) (hs : (TX11 i).1 = RX11) (hf : (TX11 i).2.2.2 = false) (hd : parseFieldDescriptor (TX11 i).2.2.1 = some ty) (hn : narrow ty (.int x) = .int x) (hfit : fits ty (.int x) = true) (d : decode cc pc = .ok (.putfield index, 3)) (kk : ∀ (H1 : Heap) (locs1 : List Loc), Hx E (st σ k i x) s H1 locs1 → W p l e R s m args below meth c H1 locs1 cells slots Q (F0 m (pc + 3) ls rest)) : W p l e R s m args below meth c H locs cells slots Q (F0 m pc ls (.int x :: .ref (gB E + k) :: rest)) :=
  va_put C.1 C.2.1 C.ts inX11 tyX11 tyX11_ok nmX11 C.hown G.K X.1 ceD X.2 k ((ce_k 9 hk (by decide)).trans (by rw [he])) (show vwCl[8]? = some (RX11, TX11, 12) from rfl) i hi (C.ts _ hl) (fun x hx => by rw [hs] at hx; exact hx) hf hd hn hfit hlen d (fun H1 locs1 h1 _ h3 => kk H1 locs1 ⟨by rw [he2, ce_sr hk (by decide) rfl] at h1; exact h1, h3⟩)
theorem rcX11 (G : Gf E s) (X : Hx E σ s H locs) {k : Nat} (hk : kd k = 9) : ∃ cell : Cell, H[gB E + k]? = some cell ∧ cell.vm.isStatics = false ∧ s.vm.findClass RX11 = some cell.cls :=
  va_recv G.K X.1 (show vwCl[8]? = some (RX11, TX11, 12) from rfl) (ce_k 9 hk (by decide))
theorem inX12 : ∀ w ∈ u_ws RX12 TX12 23, w ∈ WU := by
  have h : (u_ws RX12 TX12 23).all (fun w => decide (w ∈ lw_tbl) && goodWord w) = true := by decide +kernel
  intro w hw
  have := List.all_eq_true.mp h w hw
  simp only [Bool.and_eq_true, decide_eq_true_eq] at this
  exact List.mem_filter.mpr this
theorem gfX12 (C : Cx p s m args meth c cc ret nL own) (G : Gf E s) (X : Hx E σ s H locs) {k : Nat} (hk : kd k = 10) (i : Nat) {v : Value} {fs : List Value} {index : Nat} (he : cell0 E k (σ k) 10 = .inr (9, fs)) (hv : fs[i]? = some v) (hi : i < 23) (hl : Cond.fieldLink own index RX12 (TX12 i).2.1 (TX12 i).2.2.1 ∈ WU) (hs : (TX12 i).1 = RX12) (d : decode cc pc = .ok (.getfield index, 3)) (kk : W p l e R s m args below meth c H locs cells slots Q (F0 m (pc + 3) ls (v :: rest))) : W p l e R s m args below meth c H locs cells slots Q (F0 m pc ls (.ref (gB E + k) :: rest)) :=
  va_get C.1 C.2.1 C.ts inX12 C.hown G.K X.1 k ((ce_k 10 hk (by decide)).trans (by rw [he])) (show vwCl[9]? = some (RX12, TX12, 23) from rfl) i hi (C.ts _ hl) (fun x hx => by rw [hs] at hx; exact hx) hv d kk
theorem pfX12 (C : Cx p s m args meth c cc ret nL own) (G : Gf E s) (X : Hx E σ s H locs) {k : Nat} (hk : kd k = 10) (i : Nat) {x : Int32} {ty : FieldType} {fs : List Value} {index : Nat} (he : cell0 E k (σ k) 10 = .inr (9, fs)) (he2 : .inr (9, fs.set i (.int x)) = cell0 E k (upd (σ k) i x) 10) (hlen : i < fs.length) (hi : i < 23) (hl : Cond.fieldLink own index RX12 (TX12 i).2.1 (TX12 i).2.2.1 ∈ WU) (hs : (TX12 i).1 = RX12) (hf : (TX12 i).2.2.2 = false) (hd : parseFieldDescriptor (TX12 i).2.2.1 = some ty) (hn : narrow ty (.int x) = .int x) (hfit : fits ty (.int x) = true) (d : decode cc pc = .ok (.putfield index, 3)) (kk : ∀ (H1 : Heap) (locs1 : List Loc), Hx E (st σ k i x) s H1 locs1 → W p l e R s m args below meth c H1 locs1 cells slots Q (F0 m (pc + 3) ls rest)) : W p l e R s m args below meth c H locs cells slots Q (F0 m pc ls (.int x :: .ref (gB E + k) :: rest)) :=
  va_put C.1 C.2.1 C.ts inX12 tyX12 tyX12_ok nmX12 C.hown G.K X.1 ceD X.2 k ((ce_k 10 hk (by decide)).trans (by rw [he])) (show vwCl[9]? = some (RX12, TX12, 23) from rfl) i hi (C.ts _ hl) (fun x hx => by rw [hs] at hx; exact hx) hf hd hn hfit hlen d (fun H1 locs1 h1 _ h3 => kk H1 locs1 ⟨by rw [he2, ce_sr hk (by decide) rfl] at h1; exact h1, h3⟩)
theorem rcX12 (G : Gf E s) (X : Hx E σ s H locs) {k : Nat} (hk : kd k = 10) : ∃ cell : Cell, H[gB E + k]? = some cell ∧ cell.vm.isStatics = false ∧ s.vm.findClass RX12 = some cell.cls :=
  va_recv G.K X.1 (show vwCl[9]? = some (RX12, TX12, 23) from rfl) (ce_k 10 hk (by decide))
theorem ald (C : Cx p s m args meth c cc ret nL own) (G : Gf E s) (X : Hx E σ s H locs) {k : Nat} (hk : kd k = 0) {i : Int32} (hin : vp_in i (ln k)) (d : decode cc pc = .ok (.iaload, 1)) (kk : W p l e R s m args below meth c H locs cells slots Q (F0 m (pc + 1) ls (.int (σ k i.toNatClampNeg) :: rest))) : W p l e R s m args below meth c H locs cells slots Q (F0 m pc ls (.int i :: .ref (gB E + k) :: rest)) :=
  va_iald C.1 C.2.1 G.K X.1 k 0 (ce_k 0 hk (by decide)) rfl hin d kk
theorem ast (C : Cx p s m args meth c cc ret nL own) (G : Gf E s) (X : Hx E σ s H locs) {k : Nat} (hk : kd k = 0) {i x : Int32} (hin : vp_in i (ln k)) (d : decode cc pc = .ok (.iastore, 1)) (kk : ∀ (H1 : Heap) (locs1 : List Loc), Hx E (st σ k i.toNatClampNeg x) s H1 locs1 → W p l e R s m args below meth c H1 locs1 cells slots Q (F0 m (pc + 1) ls rest)) : W p l e R s m args below meth c H locs cells slots Q (F0 m pc ls (.int x :: .int i :: .ref (gB E + k) :: rest)) :=
  va_iast C.1 C.2.1 G.K X.1 ceD X.2 k 0 (ce_k 0 hk (by decide)) rfl hin d (fun H1 locs1 h1 _ h3 => kk H1 locs1 ⟨by rw [ce_sr (f := upd (σ k) i.toNatClampNeg x) (e := .inl (gT E 0, ln k, .inl (upd (σ k) i.toNatClampNeg x))) hk (by decide) rfl] at h1; exact h1, h3⟩)
theorem aln (C : Cx p s m args meth c cc ret nL own) (G : Gf E s) (X : Hx E σ s H locs) {k : Nat} (hk : kd k = 0) (d : decode cc pc = .ok (.arraylength, 1)) (kk : W p l e R s m args below meth c H locs cells slots Q (F0 m (pc + 1) ls (.int (nI (ln k)) :: rest))) : W p l e R s m args below meth c H locs cells slots Q (F0 m pc ls (.ref (gB E + k) :: rest)) :=
  va_alen C.1 C.2.1 G.K X.1 k 0 (ce_k 0 hk (by decide)) rfl rfl d kk
theorem alnT (C : Cx p s m args meth c cc ret nL own) (G : Gf E s) (X : Hx E σ s H locs) {k : Nat} (hk : kd k = 11) (d : decode cc pc = .ok (.arraylength, 1)) (kk : W p l e R s m args below meth c H locs cells slots Q (F0 m (pc + 1) ls (.int (nI (ln k)) :: rest))) : W p l e R s m args below meth c H locs cells slots Q (F0 m pc ls (.ref (gB E + k) :: rest)) :=
  va_alen C.1 C.2.1 G.K X.1 k 1 (ce_k 11 hk (by decide)) rfl rfl d kk
theorem alnS (C : Cx p s m args meth c cc ret nL own) (G : Gf E s) (X : Hx E σ s H locs) {k : Nat} (hk : kd k = 12) (d : decode cc pc = .ok (.arraylength, 1)) (kk : W p l e R s m args below meth c H locs cells slots Q (F0 m (pc + 1) ls (.int (nI (ln k)) :: rest))) : W p l e R s m args below meth c H locs cells slots Q (F0 m pc ls (.ref (gB E + k) :: rest)) :=
  va_alen C.1 C.2.1 G.K X.1 k 2 (ce_k 12 hk (by decide)) rfl rfl d kk
theorem aldT (C : Cx p s m args meth c cc ret nL own) (G : Gf E s) (X : Hx E σ s H locs) {k : Nat} (hk : kd k = 11) {i : Int32} (hin : vp_in i (ln k)) (d : decode cc pc = .ok (.aaload, 1)) (kk : W p l e R s m args below meth c H locs cells slots Q (F0 m (pc + 1) ls (tV E (σ k i.toNatClampNeg) :: rest))) : W p l e R s m args below meth c H locs cells slots Q (F0 m pc ls (.int i :: .ref (gB E + k) :: rest)) :=
  va_aldq C.1 C.2.1 G.K X.1 k 1 (ce_k 11 hk (by decide)) rfl hin d kk
theorem aldS (C : Cx p s m args meth c cc ret nL own) (G : Gf E s) (X : Hx E σ s H locs) {k : Nat} (hk : kd k = 12) {i : Int32} (hin : vp_in i (ln k)) (d : decode cc pc = .ok (.aaload, 1)) (kk : W p l e R s m args below meth c H locs cells slots Q (F0 m (pc + 1) ls (.ref (gB E + (k + 1 + 21 * i.toNatClampNeg)) :: rest))) : W p l e R s m args below meth c H locs cells slots Q (F0 m pc ls (.int i :: .ref (gB E + k) :: rest)) :=
  va_aldq C.1 C.2.1 G.K X.1 k 2 (ce_k 12 hk (by decide)) rfl hin d kk
theorem ald_o (C : Cx p s m args meth c cc ret nL own) (G : Gf E s) (X : Hx E σ s H locs) {k : Nat} (hk : kd k = 13) {i : Int32} (hin : vp_in i (ln k)) (d : decode cc pc = .ok (.laload, 1)) (kk : W p l e R s m args below meth c H locs cells slots Q (F0 m (pc + 1) ls (.long (σ k i.toNatClampNeg).toInt64 :: rest))) : W p l e R s m args below meth c H locs cells slots Q (F0 m pc ls (.int i :: .ref (gB E + k) :: rest)) :=
  va_lald C.1 C.2.1 G.K X.1 k 3 (ce_k 13 hk (by decide)) rfl hin d kk
theorem ast_o (C : Cx p s m args meth c cc ret nL own) (G : Gf E s) (X : Hx E σ s H locs) {k : Nat} (hk : kd k = 13) {i x : Int32} (hin : vp_in i (ln k)) (d : decode cc pc = .ok (.lastore, 1)) (kk : ∀ (H1 : Heap) (locs1 : List Loc), Hx E (st σ k i.toNatClampNeg x) s H1 locs1 → W p l e R s m args below meth c H1 locs1 cells slots Q (F0 m (pc + 1) ls rest)) : W p l e R s m args below meth c H locs cells slots Q (F0 m pc ls (.long x.toInt64 :: .int i :: .ref (gB E + k) :: rest)) :=
  va_last C.1 C.2.1 G.K X.1 ceD X.2 k 3 (ce_k 13 hk (by decide)) rfl hin d (fun H1 locs1 h1 _ h3 => kk H1 locs1 ⟨by
    rw [ce_sr (f := upd (σ k) i.toNatClampNeg x) (e := .inl (gT E 3, ln k, .inr (.inl (vp_updL (fun j => (σ k j).toInt64) i.toNatClampNeg x.toInt64)))) hk (by decide) (by
      have e : vp_updL (fun j => (σ k j).toInt64) i.toNatClampNeg x.toInt64 = fun j => (upd (σ k) i.toNatClampNeg x j).toInt64 := by funext j; simp only [vp_updL, upd]; split <;> rfl
      rw [e]; rfl)] at h1; exact h1, h3⟩)

end ROWS
/-! the words of the mirrors -/
def bd {α β : Type} (o : Option α) (f : α → Option β) : Option β := o.bind f
def bd2 {α β γ : Type} (o : Option (α × β)) (f : α → β → Option γ) : Option γ := o.bind (fun q => f q.1 q.2)
def bdx {γ : Type} (o : Option (Int32 ⊕ Nat)) (f : Int32 → Option γ) (g : Nat → Option γ) : Option γ := o.bind (fun r => match r with | .inl a => f a | .inr x => g x)
def bdx2 {γ : Type} (o : Option ((Int32 ⊕ Nat) × Mem)) (f : Int32 → Mem → Option γ) (g : Nat → Mem → Option γ) : Option γ := o.bind (fun r => match r.1 with | .inl a => f a r.2 | .inr x => g x r.2)
theorem bd_s {α β : Type} (a : α) (f : α → Option β) : bd (some a) f = f a := rfl
theorem bd2_s {α β γ : Type} (a : α) (b : β) (f : α → β → Option γ) : bd2 (some (a, b)) f = f a b := rfl
theorem bdx_l {γ : Type} (a : Int32) (f : Int32 → Option γ) (g : Nat → Option γ) : bdx (some (.inl a)) f g = f a := rfl
theorem bdx_r {γ : Type} (a : Nat) (f : Int32 → Option γ) (g : Nat → Option γ) : bdx (some (.inr a)) f g = g a := rfl
theorem bdx2_l {γ : Type} (a : Int32) (σ : Mem) (f : Int32 → Mem → Option γ) (g : Nat → Mem → Option γ) : bdx2 (some (.inl a, σ)) f g = f a σ := rfl
theorem bdx2_r {γ : Type} (a : Nat) (σ : Mem) (f : Int32 → Mem → Option γ) (g : Nat → Mem → Option γ) : bdx2 (some (.inr a, σ)) f g = g a σ := rfl
theorem bnd {α β : Type} {o : Option α} {f : α → Option β} {r : β} (h : bd o f = some r) : ∃ v, o = some v ∧ f v = some r := by
  cases o with
  | none => cases h
  | some v => exact ⟨v, rfl, h⟩
theorem bnd2 {α β γ : Type} {o : Option (α × β)} {f : α → β → Option γ} {r : γ} (h : bd2 o f = some r) : ∃ a b, o = some (a, b) ∧ f a b = some r := by
  cases o with
  | none => cases h
  | some v => exact ⟨v.1, v.2, rfl, h⟩
theorem bndx {γ : Type} {o : Option (Int32 ⊕ Nat)} {f : Int32 → Option γ} {g : Nat → Option γ} {r : γ} (h : bdx o f g = some r) : (∃ a, o = some (.inl a) ∧ f a = some r) ∨ ∃ x, o = some (.inr x) ∧ g x = some r := by
  cases o with
  | none => cases h
  | some v => cases v with
    | inl a => exact Or.inl ⟨a, rfl, h⟩
    | inr x => exact Or.inr ⟨x, rfl, h⟩
theorem bndx2 {γ : Type} {o : Option ((Int32 ⊕ Nat) × Mem)} {f : Int32 → Mem → Option γ} {g : Nat → Mem → Option γ} {r : γ} (h : bdx2 o f g = some r) : (∃ a σ, o = some (.inl a, σ) ∧ f a σ = some r) ∨ ∃ x σ, o = some (.inr x, σ) ∧ g x σ = some r := by
  cases o with
  | none => cases h
  | some v =>
    obtain ⟨w, σ⟩ := v
    cases w with
    | inl a => exact Or.inl ⟨a, σ, rfl, h⟩
    | inr x => exact Or.inr ⟨x, σ, rfl, h⟩
theorem ipos {α : Type} {c : Prop} [Decidable c] {a b r : α} (hc : c) (h : (if c then a else b) = r) : a = r := by rw [if_pos hc] at h; exact h
theorem ineg {α : Type} {c : Prop} [Decidable c] {a b r : α} (hc : ¬ c) (h : (if c then a else b) = r) : b = r := by rw [if_neg hc] at h; exact h
def ag (σ : Mem) (k : Nat) (i : Int32) : Option Int32 := if i < 0 ∨ ln k ≤ i.toNatClampNeg then none else some (σ k i.toNatClampNeg)
def au (σ : Mem) (k : Nat) (i x : Int32) : Option Mem := if i < 0 ∨ ln k ≤ i.toNatClampNeg then none else some (st σ k i.toNatClampNeg x)
theorem ag_s {σ : Mem} {k : Nat} {i v : Int32} (h : ag σ k i = some v) : vp_in i (ln k) ∧ σ k i.toNatClampNeg = v := by
  unfold ag at h
  by_cases c : i < 0 ∨ ln k ≤ i.toNatClampNeg
  · rw [if_pos c] at h; cases h
  · rw [if_neg c] at h; exact ⟨c, Option.some.inj h⟩
theorem au_s {σ σ' : Mem} {k : Nat} {i x : Int32} (h : au σ k i x = some σ') : vp_in i (ln k) ∧ st σ k i.toNatClampNeg x = σ' := by
  unfold au at h
  by_cases c : i < 0 ∨ ln k ≤ i.toNatClampNeg
  · rw [if_pos c] at h; cases h
  · rw [if_neg c] at h; exact ⟨c, Option.some.inj h⟩
/-- a truth value -/
def gb (x : Int32) : Option Unit := if x = 0 ∨ x = 1 then some () else none
theorem gb_s {x : Int32} {u : Unit} (h : gb x = some u) : narrow .boolean (.int x) = .int x ∧ fits .boolean (.int x) = true := by
  unfold gb at h
  by_cases c : x = 0 ∨ x = 1
  · rcases c with rfl | rfl <;> exact ⟨by decide, by decide⟩
  · rw [if_neg c] at h; cases h
/-- not zero -/
def gz (x : Int32) : Option Unit := if x = 0 then none else some ()
theorem gz_s {x : Int32} {u : Unit} (h : gz x = some u) : ¬ x = 0 := fun c => by unfold gz at h; rw [if_pos c] at h; cases h
def gzl (x : Int64) : Option Unit := if x = 0 then none else some ()
theorem gzl_s {x : Int64} {u : Unit} (h : gzl x = some u) : ¬ x = 0 := fun c => by unfold gzl at h; rw [if_pos c] at h; cases h
def FU : Nat := 100000


def nrw : List Cond := flatC (Jvm.Cond.and given_1 narrow_1)
def SR : List (String × Nat) := [("PaneStreet$Term", 130), ("PaneStreet$Term", 138), ("PaneStreet$Term", 141), ("PaneStreet$Term", 144), ("PaneStreet$Term", 147), ("PaneStreet$Term", 150), ("PaneStreet$Term", 153), ("PaneStreet$Term", 156), ("PaneStreet$Term", 159), ("PaneStreet$Term", 162), ("PaneStreet$Term", 165), ("PaneStreet$Term", 168), ("PaneStreet$Term", 171), ("PaneStreet$Term", 174), ("PaneStreet$Term", 177), ("PaneStreet$Term", 180), ("PaneStreet$Term", 183), ("PaneStreet$Term", 186), ("PaneStreet$Term", 189), ("PaneStreet$Term", 192), ("PaneStreet$Term", 195), ("PaneStreet$Term", 198), ("PaneStreet$Term", 201), ("PaneStreet$Term", 204), ("PaneStreet$Term", 207), ("PaneStreet$Term", 210), ("PaneStreet$Term", 213), ("PaneStreet$Term", 216), ("PaneStreet$Term", 219), ("PaneStreet$Term", 222)]
def tmS (i : Nat) : Term := Term.string (SR.getD i ("", 0)).1 (SR.getD i ("", 0)).2
def tmT (i : Nat) : Term := Term.static "PaneStreet$Term" (tmN.getD i "") "LPaneStreet$Term;"
def isSub : List Cond → List Cond → Bool
  | [], ws => ws.isEmpty
  | x :: xs, ws => match ws with
    | [] => true
    | w :: ws' => if w = x then isSub xs ws' else isSub xs ws
theorem isSub_mem : ∀ (xs ws : List Cond), isSub xs ws = true → ∀ w ∈ ws, w ∈ xs := by
  intro xs
  induction xs with
  | nil =>
    intro ws h w hw
    cases ws with
    | nil => exact nomatch hw
    | cons a b => exact nomatch h
  | cons x xs ih =>
    intro ws h w hw
    cases ws with
    | nil => exact nomatch hw
    | cons a b =>
      have h : (if a = x then isSub xs b else isSub xs (a :: b)) = true := h
      by_cases e : a = x
      · rw [if_pos e] at h
        rcases List.mem_cons.mp hw with q | q
        · rw [q, e]; exact List.mem_cons_self
        · exact List.mem_cons_of_mem _ (ih b h w q)
      · rw [if_neg e] at h
        exact List.mem_cons_of_mem _ (ih (a :: b) h w hw)
def ordS : List Nat := [15, 8, 7, 9, 10, 11, 12, 13, 14, 0, 1, 16, 17, 18, 19, 20, 21, 22, 23, 24, 25, 26, 27, 2, 3, 4, 5, 6, 28, 29]
theorem en_so : ∀ i, i < 30 → i ∈ ordS := by decide +kernel
theorem en_l1 : (nstL.all fun w => decide (w ∈ lw_tbl) && w.onTables) = true := by decide +kernel
theorem en_l2 : (dclL.all fun x => decide (Cond.declares x ∈ lw_tbl) && (Cond.declares x).onTables) = true := by decide +kernel
theorem en_l3 : (cstL.all fun q => decide (Cond.castable q.1 q.2 ∈ lw_tbl) && (Cond.castable q.1 q.2).onTables) = true := by decide +kernel
theorem en_l4 : (ncL.all fun q => decide (Cond.not (.castable q.1 q.2) ∈ nrw)) = true := by decide +kernel
theorem en_l5 : (strL.all fun q => decide (Cond.stringRef q.1 q.2.1 q.2.2.1 ∈ lw_tbl)) = true := by decide +kernel
theorem en_l6 : (msgL.all fun q => decide (Cond.stringRef q.1 q.2.1 q.2.2 ∈ lw_tbl) && decide (Cond.exactly (.string q.1 q.2.1) "java/lang/String" ∈ nrw)) = true := by decide +kernel
def eqL : List (String × Nat × Nat) := [("PaneStreetModel", 202, 15), ("PaneStreetModel", 138, 8), ("PaneStreetModel", 133, 7), ("PaneStreetModel", 108, 9), ("PaneStreetModel", 191, 10), ("PaneStreetModel", 124, 11), ("PaneStreetModel", 148, 12), ("PaneStreetModel", 158, 13), ("PaneStreetModel", 196, 14), ("PaneStreetModel", 110, 16), ("PaneStreetModel", 119, 17), ("PaneStreetModel", 126, 18), ("PaneStreetModel", 131, 19), ("PaneStreetModel", 143, 20), ("PaneStreetModel", 153, 21), ("PaneStreetModel", 160, 22), ("PaneStreetModel", 226, 23), ("PaneStreetModel", 228, 24), ("PaneStreetModel", 230, 25), ("PaneStreetModel", 232, 26), ("PaneStreetModel", 207, 27), ("PaneStreetModel", 219, 28), ("PaneStreetModel", 224, 29)]
theorem en_l7a : isSub nrw (eqL.map fun q => Cond.eq (.string q.1 q.2.1) (tmS q.2.2)) = true := by decide +kernel
theorem en_l7b : (strL.all fun q => decide ((q.1, q.2.1) = SR.getD q.2.2.2 ("", 0)) || decide ((q.1, q.2.1, q.2.2.2) ∈ eqL)) = true := by decide +kernel
theorem en_l7 {q : String × Nat × String × Nat} (hm : q ∈ strL) : Term.string q.1 q.2.1 = tmS q.2.2.2 ∨ Cond.eq (.string q.1 q.2.1) (tmS q.2.2.2) ∈ nrw := by
  have h := List.all_eq_true.mp en_l7b q hm
  simp only [Bool.or_eq_true, decide_eq_true_eq] at h
  rcases h with h | h
  · refine Or.inl ?_
    rw [tmS, ← h]
  · exact Or.inr (isSub_mem nrw _ en_l7a _ (List.mem_map.mpr ⟨_, h, rfl⟩))
theorem en_t1 : ∀ i, i < tmN.length → Cond.laysStatic "PaneStreet$Term" (tmN.getD i "") "LPaneStreet$Term;" ∈ lw_tbl := by decide +kernel
theorem en_t2 : ∀ i, i < tmN.length → Cond.exactly (.static "PaneStreet$Term" (tmN.getD i "") "LPaneStreet$Term;") "PaneStreet$Term" ∈ nrw := by decide +kernel
theorem en_t3 : ∀ i, i < tmN.length → Cond.eq (.field (.static "PaneStreet$Term" (tmN.getD i "") "LPaneStreet$Term;") "PaneStreet$Term" "fact" "I") (.int (fctL.getD i 0)) ∈ nrw := by decide +kernel
theorem en_t4 : ∀ i, i < tmN.length → Cond.eq (.field (.static "PaneStreet$Term" (tmN.getD i "") "LPaneStreet$Term;") "java/lang/Enum" "ordinal" "I") (.int (Int32.ofNat i)) ∈ nrw := by decide +kernel
theorem en_t5 : ∀ i, i < 32 → Cond.eq (.field (.static "PaneStreet$Term" (tmN.getD i "") "LPaneStreet$Term;") "PaneStreet$Term" "spelling" "Ljava/lang/String;") (tmS (spL.getD i 0)) ∈ nrw := by decide +kernel
theorem en_t6 : ∀ i, i < 32 → Cond.eq (.elem (.static "PaneStreet$Term" "ALL" "[LPaneStreet$Term;") (.int (Int32.ofNat i))) (.static "PaneStreet$Term" (tmN.getD i "") "LPaneStreet$Term;") ∈ nrw := by decide +kernel
theorem en_t7 : ∀ i, i < 32 → ∀ j, j < 32 → Int32.ofNat i = Int32.ofNat j → i = j := by decide +kernel
theorem en_ini : Cond.initialized "PaneStreet$Term" ∈ lw_tbl := by decide +kernel
theorem en_s1a : isSub nrw (ordS.map fun i => Cond.exactly (tmS i) "java/lang/String") = true := by decide +kernel
theorem en_s1 : ∀ i, i < 30 → Cond.exactly (tmS i) "java/lang/String" ∈ nrw := fun i hi => isSub_mem nrw _ en_s1a _ (List.mem_map.mpr ⟨i, en_so i hi, rfl⟩)
theorem en_s2a : isSub nrw (ordS.map fun i => Cond.eq (.field (tmS i) "java/lang/String" "coder" "B") (.int 0)) = true := by decide +kernel
theorem en_s2 : ∀ i, i < 30 → Cond.eq (.field (tmS i) "java/lang/String" "coder" "B") (.int 0) ∈ nrw := fun i hi => isSub_mem nrw _ en_s2a _ (List.mem_map.mpr ⟨i, en_so i hi, rfl⟩)
theorem en_s3a : isSub nrw (ordS.map fun i => Cond.arrayOf (.field (tmS i) "java/lang/String" "value" "[B") .byte) = true := by decide +kernel
theorem en_s3 : ∀ i, i < 30 → Cond.arrayOf (.field (tmS i) "java/lang/String" "value" "[B") .byte ∈ nrw := fun i hi => isSub_mem nrw _ en_s3a _ (List.mem_map.mpr ⟨i, en_so i hi, rfl⟩)
theorem en_s4a : isSub nrw (ordS.map fun i => Cond.eq (.length (.field (tmS i) "java/lang/String" "value" "[B")) (.int (Int32.ofNat (txL.getD i 0)))) = true := by decide +kernel
theorem en_s4 : ∀ i, i < 30 → Cond.eq (.length (.field (tmS i) "java/lang/String" "value" "[B")) (.int (Int32.ofNat (txL.getD i 0))) ∈ nrw := fun i hi => isSub_mem nrw _ en_s4a _ (List.mem_map.mpr ⟨i, en_so i hi, rfl⟩)
def byA (i j : Nat) : Cond := Cond.eq (.elem (.field (tmS i) "java/lang/String" "value" "[B") (.int (Int32.ofNat j))) (.int ((txB.getD i []).getD j 0))
def ordT : List Nat := [15, 8, 7, 9, 10, 11, 12, 13, 14, 1, 16, 17, 18, 19, 20, 21, 22, 23, 24, 25, 26, 27, 2, 3, 4, 5, 6, 28, 29]
def byL : List Cond := ordT.flatMap fun i => (List.range (txL.getD i 0)).map (byA i)
theorem en_s5a : isSub nrw byL = true := by decide +kernel
theorem en_s5b : ∀ i, i < 30 → i ∈ ordT ∨ txL.getD i 0 = 0 := by decide +kernel
theorem en_s5 : ∀ i, i < 30 → ∀ j, j < txL.getD i 0 → Cond.eq (.elem (.field (tmS i) "java/lang/String" "value" "[B") (.int (Int32.ofNat j))) (.int ((txB.getD i []).getD j 0)) ∈ nrw := by
  intro i hi j hj
  rcases en_s5b i hi with h | h
  · exact isSub_mem nrw byL en_s5a (byA i j) (List.mem_flatMap.mpr ⟨i, h, List.mem_map.mpr ⟨j, List.mem_range.mpr hj, rfl⟩⟩)
  · exact absurd hj (by omega)
theorem en_s6 : ∀ i, i < 30 → ∀ j, j < 30 → i ≠ j → Int32.ofNat (txL.getD i 0) = Int32.ofNat (txL.getD j 0) → txL.getD i 0 = txL.getD j 0 ∧ ((List.range (txL.getD i 0)).any fun k => decide ((txB.getD i []).getD k 0 ≠ (txB.getD j []).getD k 0)) = true := by decide +kernel
theorem en_s7 : ∀ i, i < 30 → txL.getD i 0 < 2 ^ 31 := by decide +kernel
theorem en_l8 : (strL.all fun q => decide (q.2.2.2 < txN)) = true := by decide +kernel
theorem en_z1 : Cond.laysStatic Bundle.tN "UNASSIGNED_STACK" Bundle.steD ∈ lw_tbl ∧ Cond.laysStatic Bundle.tN "SUPPRESSED_SENTINEL" Bundle.listD ∈ lw_tbl ∧ Cond.initialized Bundle.tN ∈ lw_tbl ∧ Cond.isRef (.static Bundle.tN "UNASSIGNED_STACK" Bundle.steD) ∈ nrw ∧ Cond.isRef (.static Bundle.tN "SUPPRESSED_SENTINEL" Bundle.listD) ∈ nrw := by decide +kernel
theorem en_z2 : Cond.laysStatic "java/lang/String" "COMPACT_STRINGS" "Z" ∈ lw_tbl ∧ Cond.initialized "java/lang/String" ∈ lw_tbl ∧ Cond.eq (.static "java/lang/String" "COMPACT_STRINGS" "Z") (.int 1) ∈ nrw := by decide +kernel
theorem en_z3 : Cond.laysStatic "jdk/internal/util/Preconditions" "SIOOBE_FORMATTER" "Ljava/util/function/BiFunction;" ∈ lw_tbl ∧ Cond.initialized "jdk/internal/util/Preconditions" ∈ lw_tbl ∧ Cond.isRef (.static "jdk/internal/util/Preconditions" "SIOOBE_FORMATTER" "Ljava/util/function/BiFunction;") ∈ nrw := by decide +kernel
theorem en_z4 : Cond.laysStatic "PaneStreet$Term" "ALL" "[LPaneStreet$Term;" ∈ lw_tbl ∧ Cond.arrayOf (.static "PaneStreet$Term" "ALL" "[LPaneStreet$Term;") (.object "PaneStreet$Term") ∈ nrw ∧ Cond.eq (.length (.static "PaneStreet$Term" "ALL" "[LPaneStreet$Term;")) (.int (Int32.ofNat 32)) ∈ nrw := by decide +kernel
theorem en_ao : Cond.arrayOver (.object "PaneStreet$Term") ∈ lw_tbl ∧ Cond.arrayOver (.object "PaneStreet$Street") ∈ lw_tbl := by decide +kernel
theorem en_sp : ∀ i, i < 32 → spL.getD i 0 < txN := by decide +kernel

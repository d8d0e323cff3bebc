def nrw : List Cond := flatC (Jvm.Cond.and given_1 narrow_1)
def SR : List (String × Nat) := [("PaneStreet$Term", 130), ("PaneStreet$Term", 138), ("PaneStreet$Term", 141), ("PaneStreet$Term", 144), ("PaneStreet$Term", 147), ("PaneStreet$Term", 150), ("PaneStreet$Term", 153), ("PaneStreet$Term", 156), ("PaneStreet$Term", 159), ("PaneStreet$Term", 162), ("PaneStreet$Term", 165), ("PaneStreet$Term", 168), ("PaneStreet$Term", 171), ("PaneStreet$Term", 174), ("PaneStreet$Term", 177), ("PaneStreet$Term", 180), ("PaneStreet$Term", 183), ("PaneStreet$Term", 186), ("PaneStreet$Term", 189), ("PaneStreet$Term", 192), ("PaneStreet$Term", 195), ("PaneStreet$Term", 198), ("PaneStreet$Term", 201), ("PaneStreet$Term", 204), ("PaneStreet$Term", 207), ("PaneStreet$Term", 210), ("PaneStreet$Term", 213), ("PaneStreet$Term", 216), ("PaneStreet$Term", 219), ("PaneStreet$Term", 222)]
def tmS (i : Nat) : Term := Term.string (SR.getD i ("", 0)).1 (SR.getD i ("", 0)).2
def tmT (i : Nat) : Term := Term.static "PaneStreet$Term" (tmN.getD i "") "LPaneStreet$Term;"
theorem en_l1 : (nstL.all fun w => decide (w ∈ lw_tbl) && w.onTables) = true := by decide +kernel
theorem en_l2 : (dclL.all fun x => decide (Cond.declares x ∈ lw_tbl) && (Cond.declares x).onTables) = true := by decide +kernel
theorem en_l3 : (cstL.all fun q => decide (Cond.castable q.1 q.2 ∈ lw_tbl) && (Cond.castable q.1 q.2).onTables) = true := by decide +kernel
theorem en_l4 : (ncL.all fun q => decide (Cond.not (.castable q.1 q.2) ∈ nrw)) = true := by decide +kernel
theorem en_l5 : (strL.all fun q => decide (Cond.stringRef q.1 q.2.1 q.2.2.1 ∈ lw_tbl)) = true := by decide +kernel
theorem en_l6 : (msgL.all fun q => decide (Cond.stringRef q.1 q.2.1 q.2.2 ∈ lw_tbl) && decide (Cond.exactly (.string q.1 q.2.1) "java/lang/String" ∈ nrw)) = true := by decide +kernel
theorem en_l7 : (strL.all fun q => decide (Term.string q.1 q.2.1 = tmS q.2.2.2) || decide (Cond.eq (.string q.1 q.2.1) (tmS q.2.2.2) ∈ nrw)) = true := by decide +kernel
theorem en_t1 : ∀ i, i < tmN.length → Cond.laysStatic "PaneStreet$Term" (tmN.getD i "") "LPaneStreet$Term;" ∈ lw_tbl := by decide +kernel
theorem en_t2 : ∀ i, i < tmN.length → Cond.exactly (.static "PaneStreet$Term" (tmN.getD i "") "LPaneStreet$Term;") "PaneStreet$Term" ∈ nrw := by decide +kernel
theorem en_t3 : ∀ i, i < tmN.length → Cond.eq (.field (.static "PaneStreet$Term" (tmN.getD i "") "LPaneStreet$Term;") "PaneStreet$Term" "fact" "I") (.int (fctL.getD i 0)) ∈ nrw := by decide +kernel
theorem en_t4 : ∀ i, i < tmN.length → Cond.eq (.field (.static "PaneStreet$Term" (tmN.getD i "") "LPaneStreet$Term;") "java/lang/Enum" "ordinal" "I") (.int (Int32.ofNat i)) ∈ nrw := by decide +kernel
theorem en_t5 : ∀ i, i < 32 → Cond.eq (.field (.static "PaneStreet$Term" (tmN.getD i "") "LPaneStreet$Term;") "PaneStreet$Term" "spelling" "Ljava/lang/String;") (tmS (spL.getD i 0)) ∈ nrw := by decide +kernel
theorem en_t6 : ∀ i, i < 32 → Cond.eq (.elem (.static "PaneStreet$Term" "ALL" "[LPaneStreet$Term;") (.int (Int32.ofNat i))) (.static "PaneStreet$Term" (tmN.getD i "") "LPaneStreet$Term;") ∈ nrw := by decide +kernel
theorem en_t7 : ∀ i, i < 32 → ∀ j, j < 32 → Int32.ofNat i = Int32.ofNat j → i = j := by decide +kernel
theorem en_ini : Cond.initialized "PaneStreet$Term" ∈ lw_tbl := by decide +kernel
theorem en_s1 : ∀ i, i < 30 → Cond.exactly (tmS i) "java/lang/String" ∈ nrw := by decide +kernel
theorem en_s2 : ∀ i, i < 30 → Cond.eq (.field (tmS i) "java/lang/String" "coder" "B") (.int 0) ∈ nrw := by decide +kernel
theorem en_s3 : ∀ i, i < 30 → Cond.arrayOf (.field (tmS i) "java/lang/String" "value" "[B") .byte ∈ nrw := by decide +kernel
theorem en_s4 : ∀ i, i < 30 → Cond.eq (.length (.field (tmS i) "java/lang/String" "value" "[B")) (.int (Int32.ofNat (txL.getD i 0))) ∈ nrw := by decide +kernel
theorem en_s5 : ∀ i, i < 30 → ∀ j, j < txL.getD i 0 → Cond.eq (.elem (.field (tmS i) "java/lang/String" "value" "[B") (.int (Int32.ofNat j))) (.int ((txB.getD i []).getD j 0)) ∈ nrw := by decide +kernel
theorem en_s6 : ∀ i, i < 30 → ∀ j, j < 30 → i ≠ j → Int32.ofNat (txL.getD i 0) = Int32.ofNat (txL.getD j 0) → txL.getD i 0 = txL.getD j 0 ∧ ((List.range (txL.getD i 0)).any fun k => decide ((txB.getD i []).getD k 0 ≠ (txB.getD j []).getD k 0)) = true := by decide +kernel
theorem en_s7 : ∀ i, i < 30 → txL.getD i 0 < 2 ^ 31 := by decide +kernel
theorem en_l8 : (strL.all fun q => decide (q.2.2.2 < txN)) = true := by decide +kernel
theorem en_z1 : Cond.laysStatic Bundle.tN "UNASSIGNED_STACK" Bundle.steD ∈ lw_tbl ∧ Cond.laysStatic Bundle.tN "SUPPRESSED_SENTINEL" Bundle.listD ∈ lw_tbl ∧ Cond.initialized Bundle.tN ∈ lw_tbl ∧ Cond.isRef (.static Bundle.tN "UNASSIGNED_STACK" Bundle.steD) ∈ nrw ∧ Cond.isRef (.static Bundle.tN "SUPPRESSED_SENTINEL" Bundle.listD) ∈ nrw := by decide +kernel
theorem en_z2 : Cond.laysStatic "java/lang/String" "COMPACT_STRINGS" "Z" ∈ lw_tbl ∧ Cond.initialized "java/lang/String" ∈ lw_tbl ∧ Cond.eq (.static "java/lang/String" "COMPACT_STRINGS" "Z") (.int 1) ∈ nrw := by decide +kernel
theorem en_z3 : Cond.laysStatic "jdk/internal/util/Preconditions" "SIOOBE_FORMATTER" "Ljava/util/function/BiFunction;" ∈ lw_tbl ∧ Cond.initialized "jdk/internal/util/Preconditions" ∈ lw_tbl ∧ Cond.isRef (.static "jdk/internal/util/Preconditions" "SIOOBE_FORMATTER" "Ljava/util/function/BiFunction;") ∈ nrw := by decide +kernel
theorem en_z4 : Cond.laysStatic "PaneStreet$Term" "ALL" "[LPaneStreet$Term;" ∈ lw_tbl ∧ Cond.arrayOf (.static "PaneStreet$Term" "ALL" "[LPaneStreet$Term;") (.object "PaneStreet$Term") ∈ nrw ∧ Cond.eq (.length (.static "PaneStreet$Term" "ALL" "[LPaneStreet$Term;")) (.int (Int32.ofNat 32)) ∈ nrw := by decide +kernel
theorem en_ao : Cond.arrayOver (.object "PaneStreet$Term") ∈ lw_tbl ∧ Cond.arrayOver (.object "PaneStreet$Street") ∈ lw_tbl := by decide +kernel
theorem en_sp : ∀ i, i < 32 → spL.getD i 0 < txN := by decide +kernel

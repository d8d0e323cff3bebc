theorem k_135 : Cond.instantiable "PaneStreet" 12 ∈ WU := wu 135 (by decide +kernel) (by decide +kernel)
theorem k_1646 : Cond.instantiable "PaneStreetModel" 23 ∈ WU := wu 1646 (by decide +kernel) (by decide +kernel)
theorem k_2296 : Cond.arrayClass FieldType.long ∈ WU := wu 2296 (by decide +kernel) (by decide +kernel)

/-! the law's entry: constants and tables -/
section ENTRY
variable {args : Array Value} {s : State}
theorem en_ref {t : Term} {C : String} (h : (Cond.exactly t C).before args s = true) : ∃ a : Nat, t.eval args s none [] s = some (.ref a) := by
  obtain ⟨a, c, cell, k, q1, -⟩ := Cond.exactly_spec h
  exact ⟨a, q1⟩
theorem en_not {t u : Term} {x y : Nat} (h1 : t.eval args s none [] s = some (.ref x)) (h2 : u.eval args s none [] s = some (.ref y)) (hne : x ≠ y) : (Cond.not (.eq t u)).before args s = true := by
  simp [Cond.before, Cond.holds, Cond.value, h1, h2, hne]
theorem en_fld {t u : Term} {o n d : String} (h : t.eval args s none [] s = u.eval args s none [] s) : (Term.field t o n d).eval args s none [] s = (Term.field u o n d).eval args s none [] s := by
  simp only [Term.eval, h]
theorem en_len {t u : Term} (h : t.eval args s none [] s = u.eval args s none [] s) : (Term.length t).eval args s none [] s = (Term.length u).eval args s none [] s := by
  simp only [Term.eval, h]
theorem en_elm {t u i : Term} (h : t.eval args s none [] s = u.eval args s none [] s) : (Term.elem t i).eval args s none [] s = (Term.elem u i).eval args s none [] s := by
  simp only [Term.eval, h]

theorem en_K (hts : ∀ w ∈ WU, w.before args s = true) : ∃ D : va_G, ∀ (c : Nat) (q : vw_C), vwCl[c]? = some q → u_Kn s q.1 q.2.1 q.2.2 (D.1 c) (D.2 c) := by
  obtain ⟨c0, i0, k0⟩ := u_known (ws := WU) hts inX0 (hts _ k_361)
  obtain ⟨c1, i1, k1⟩ := u_known (ws := WU) hts inX1 (hts _ k_394)
  obtain ⟨c2, i2, k2⟩ := u_known (ws := WU) hts inX2 (hts _ k_341)
  obtain ⟨c3, i3, k3⟩ := u_known (ws := WU) hts inX3 (hts _ k_305)
  obtain ⟨c4, i4, k4⟩ := u_known (ws := WU) hts inX5 (hts _ k_373)
  obtain ⟨c5, i5, k5⟩ := u_known (ws := WU) hts inX6 (hts _ k_149)
  obtain ⟨c6, i6, k6⟩ := u_known (ws := WU) hts inX7 (hts _ k_191)
  obtain ⟨c7, i7, k7⟩ := u_known (ws := WU) hts inX10 (hts _ k_143)
  obtain ⟨c8, i8, k8⟩ := u_known (ws := WU) hts inX11 (hts _ k_135)
  obtain ⟨c9, i9, k9⟩ := u_known (ws := WU) hts inX12 (hts _ k_1646)
  refine ⟨(fun c => [c0, c1, c2, c3, c4, c5, c6, c7, c8, c9].getD c 0, fun c => [i0, i1, i2, i3, i4, i5, i6, i7, i8, i9].getD c i0), fun c q h => ?_⟩
  match c, h with
  | 0, h => cases h; exact k0
  | 1, h => cases h; exact k1
  | 2, h => cases h; exact k2
  | 3, h => cases h; exact k3
  | 4, h => cases h; exact k4
  | 5, h => cases h; exact k5
  | 6, h => cases h; exact k6
  | 7, h => cases h; exact k7
  | 8, h => cases h; exact k8
  | 9, h => cases h; exact k9
  | n + 10, h => exact nomatch h
theorem en_T (hts : ∀ w ∈ WU, w.before args s = true) (hA : va_AO "PaneStreet$Term" s) (hB : va_AO "PaneStreet$Street" s) : ∃ T : Nat → ClassId, ∀ (k : Nat) (q : ClassId × FieldType), [(T 0, FieldType.int), (T 1, .object "PaneStreet$Term"), (T 2, .object "PaneStreet$Street"), (T 3, .long)][k]? = some q → ArrOfT s q.1 q.2 ∧ va_RA s q.1 q.2 := by
  obtain ⟨a0, k0, m0, f0, g0, h0⟩ := Cond.arrayClass_spec (hts _ k_161)
  obtain ⟨a3, k3, m3, f3, g3, h3⟩ := Cond.arrayClass_spec (hts _ k_2296)
  obtain ⟨m1, a1, k1, e1, -, g1, h1, f1⟩ := Cond.arrayOver_spec hA
  obtain ⟨m2, a2, k2, e2, -, g2, h2, f2⟩ := Cond.arrayOver_spec hB
  refine ⟨fun k => [a0, a1, a2, a3].getD k 0, fun k q h => ?_⟩
  match k, h with
  | 0, h => cases h; exact ⟨fun n z => ⟨fun k h => (by cases h), k0, g0, m0, h0⟩, f0⟩
  | 1, h => cases h; exact ⟨fun n z => ⟨fun k h => (by cases h), k1, g1, m1, h1⟩, k1, m1, g1, h1, e1, f1⟩
  | 2, h => cases h; exact ⟨fun n z => ⟨fun k h => (by cases h), k2, g2, m2, h2⟩, k2, m2, g2, h2, e2, f2⟩
  | 3, h => cases h; exact ⟨fun n z => ⟨fun k h => (by cases h), k3, g3, m3, h3⟩, f3⟩
  | n + 4, h => exact nomatch h
theorem en_w (hts : ∀ w ∈ lw_tbl, w.before args s = true) (hq : ∀ w ∈ nrw, w.before args s = true) : (∀ w ∈ nstL, va_Nw w s) ∧ (∀ x ∈ dclL, va_Nw (.declares x) s) ∧ (∀ q ∈ cstL, va_Nw (.castable q.1 q.2) s) ∧ (∀ q ∈ ncL, va_Nc q.1 q.2 s) := by
  refine ⟨fun w hw => ?_, fun w hw => ?_, fun w hw => ?_, fun w hw => ?_⟩
  · have h := List.all_eq_true.mp en_l1 w hw
    simp only [Bool.and_eq_true, decide_eq_true_eq] at h
    exact va_Nw.of h.2 (hts _ h.1)
  · have h := List.all_eq_true.mp en_l2 w hw
    simp only [Bool.and_eq_true, decide_eq_true_eq] at h
    exact va_Nw.of h.2 (hts _ h.1)
  · have h := List.all_eq_true.mp en_l3 w hw
    simp only [Bool.and_eq_true, decide_eq_true_eq] at h
    exact va_Nw.of h.2 (hts _ h.1)
  · have h := List.all_eq_true.mp en_l4 w hw
    simp only [decide_eq_true_eq] at h
    exact va_Nc.of (hq _ h)
theorem en_terms (hts : ∀ w ∈ lw_tbl, w.before args s = true) (hq : ∀ w ∈ nrw, w.before args s = true) {A : Nat → Prop} (hA : ∀ a : Nat, a < s.heap.size → ¬ A a) : ∃ ad : Nat → Nat, va_En "PaneStreet$Term" "LPaneStreet$Term;" tmN [("PaneStreet$Term", "fact", "I", fctL)] ad A s s.heap ∧ ∀ i, i < tmN.length → (Term.static "PaneStreet$Term" (tmN.getD i "") "LPaneStreet$Term;").eval args s none [] s = some (.ref (ad i)) := by
  refine va_Enof2 (fun i hi => hts _ (en_t1 i hi)) (hts _ en_ini) (fun i hi => hq _ (en_t2 i hi)) (fun q hq2 i hi => ?_) (fun i j hi hj hij => Or.inl ?_) hA
  · rw [List.mem_singleton] at hq2
    subst hq2
    exact hq _ (en_t3 i hi)
  · obtain ⟨x, hx⟩ := en_ref (hq _ (en_t2 i hi))
    obtain ⟨y, hy⟩ := en_ref (hq _ (en_t2 j hj))
    refine en_not hx hy fun e => hij ?_
    have h1 := va_eqt (hq _ (en_t4 i hi))
    have h2 := va_eqt (hq _ (en_t4 j hj))
    rw [en_fld (hx.trans ((congrArg (fun z => some (Value.ref z)) e).trans hy.symm)), h2] at h1
    exact (en_t7 j hj i hi (Value.int.inj (Option.some.inj h1))).symm
theorem en_strs (hq : ∀ w ∈ nrw, w.before args s = true) {A : Nat → Prop} (hA : ∀ a : Nat, a < s.heap.size → ¬ A a) : ∃ adK adV : Nat → Nat, vk_S txN txL txB adK adV A s s.heap ∧ ∀ i : Nat, i < txN → (tmS i).eval args s none [] s = some (.ref (adK i)) := by
  refine vk_Sof en_s7 (fun i hi => hq _ (en_s1 i hi)) (fun i hi => hq _ (en_s2 i hi)) (fun i hi => hq _ (en_s3 i hi)) (fun i hi => hq _ (en_s4 i hi)) (fun i hi j hj => hq _ (en_s5 i hi j hj)) (fun i j hi hj hij => Or.inl ?_) hA
  obtain ⟨x, hx⟩ := en_ref (hq _ (en_s1 i hi))
  obtain ⟨y, hy⟩ := en_ref (hq _ (en_s1 j hj))
  refine en_not hx hy fun e => ?_
  have hv := en_fld (o := "java/lang/String") (n := "value") (d := "[B") (hx.trans ((congrArg (fun z => some (Value.ref z)) e).trans hy.symm))
  have h1 := va_eqt (hq _ (en_s4 i hi))
  rw [en_len hv, va_eqt (hq _ (en_s4 j hj))] at h1
  obtain ⟨e2, h2⟩ := en_s6 i hi j hj hij (Value.int.inj (Option.some.inj h1)).symm
  obtain ⟨k, hk, h3⟩ := List.any_eq_true.mp h2
  have hk1 := List.mem_range.mp hk
  have h4 := va_eqt (hq _ (en_s5 i hi k hk1))
  rw [en_elm hv, va_eqt (hq _ (en_s5 j hj k (by rw [← e2]; exact hk1)))] at h4
  exact absurd (Value.int.inj (Option.some.inj h4)).symm (by simpa using h3)
theorem en_r {q : String × Nat × String × Nat} (hts : ∀ w ∈ lw_tbl, w.before args s = true) (hq : ∀ w ∈ nrw, w.before args s = true) {adK : Nat → Nat} (hK : ∀ i : Nat, i < txN → (tmS i).eval args s none [] s = some (.ref (adK i))) (hm : q ∈ strL) (hi : q.2.2.2 < txN) : vk_R q.1 q.2.1 q.2.2.1 (adK q.2.2.2) s := by
  have h1 := List.all_eq_true.mp en_l5 q hm
  simp only [decide_eq_true_eq] at h1
  have h2 := en_l7 hm
  have h3 : (Term.string q.1 q.2.1).eval args s none [] s = some (.ref (adK q.2.2.2)) := by
    rcases h2 with h2 | h2
    · rw [h2]; exact hK _ hi
    · exact va_eqv (hq _ h2) (hK _ hi)
  exact vk_R.of (A := args) (hts _ h1) h3
theorem en_m {q : String × Nat × String} (hts : ∀ w ∈ lw_tbl, w.before args s = true) (hq : ∀ w ∈ nrw, w.before args s = true) (hm : q ∈ msgL) : ∃ a, vk_R q.1 q.2.1 q.2.2 a s := by
  have h1 := List.all_eq_true.mp en_l6 q hm
  simp only [Bool.and_eq_true, decide_eq_true_eq] at h1
  obtain ⟨a, ha⟩ := en_ref (hq _ h1.2)
  exact ⟨a, vk_R.of (A := args) (hts _ h1.1) ha⟩
/-- the world's names at the entry -/
theorem entry (hts : ∀ w ∈ lw_tbl, w.before args s = true) (hq : ∀ w ∈ nrw, w.before args s = true) : ∃ E : GE, gB E = s.heap.size ∧ Gf E s ∧ va_AO "PaneStreet$Term" s ∧ va_AO "PaneStreet$Street" s := by
  have htw : ∀ w ∈ WU, w.before args s = true := fun w hw => hts w (List.mem_filter.mp hw).1
  have hA0 : ∀ a : Nat, a < s.heap.size → ¬ (fun q => s.heap.size ≤ q) a := fun a ha h => Nat.not_le.mpr ha h
  have hT : va_AO "PaneStreet$Term" s := va_AO.of (hts _ en_ao.1)
  have hS : va_AO "PaneStreet$Street" s := va_AO.of (hts _ en_ao.2)
  obtain ⟨D, hD⟩ := en_K htw
  obtain ⟨T, hTy⟩ := en_T htw hT hS
  obtain ⟨ad, hEn, hev⟩ := en_terms hts hq hA0
  obtain ⟨adK, adV, hSt, hK⟩ := en_strs hq hA0
  obtain ⟨z, hz, hZT⟩ := va_Tof (N := 32) (f := fun i => .ref (ad i)) (by decide) (hq _ en_z4.2.1) (va_eqt (hq _ en_z4.2.2)) (fun j hj => va_eqv (hq _ (en_t6 j hj)) (hev j hj)) hA0
  refine ⟨(s.heap.size, D, T, ad, adK, adV, z), rfl, ⟨⟨hD, hTy⟩, en_w hts hq, ⟨hEn, ?_⟩, ⟨va_Zref (hts _ en_z4.1) (hts _ en_ini) hz hA0, hZT⟩, ⟨hSt, fun q hm => en_r hts hq hK hm (by
      have := List.all_eq_true.mp en_l8 q hm
      simpa using this), fun q hm => en_m hts hq hm⟩, vx_Zqof (hts _ en_z1.1) (hts _ en_z1.2.2.1) (hq _ en_z1.2.2.2.1) hA0, vx_Zqof (hts _ en_z1.2.1) (hts _ en_z1.2.2.1) (hq _ en_z1.2.2.2.2) hA0, va_Zof (hts _ en_z2.1) (hts _ en_z2.2.1) (va_eqi (hq _ en_z2.2.2)) hA0, va_Zqof (hts _ en_z3.1) (hts _ en_z3.2.1) (hq _ en_z3.2.2) hA0⟩, hT, hS⟩
  exact va_Efof (nm := tmN) (E := "PaneStreet$Term") (d0 := "LPaneStreet$Term;") (tm := fun i => tmS (spL.getD i 0)) hev (fun i hi => hq _ (en_t5 i hi)) (fun i hi => hK _ (en_sp i hi)) hA0
end ENTRY

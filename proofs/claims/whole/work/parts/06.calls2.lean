section Q
variable (E : GE) (below : List Frame) (args : Array Value) (s : State)
abbrev QI (r0 : Int32) (σ' : Mem) : State → Prop := MQ below (va_Qi (fun (r : Int32) (u : Mem) => r = r0 ∧ u = σ') (We E) (Fr E)) args s 0 0 (Fr E)
abbrev QL (r0 : Int64) (σ' : Mem) : State → Prop := MQ below (va_Ql (fun (r : Int64) (u : Mem) => r = r0 ∧ u = σ') (We E) (Fr E)) args s 0 0 (Fr E)
abbrev QV (σ' : Mem) : State → Prop := MQ below (va_Qv (fun (u : Mem) => u = σ') (We E) (Fr E)) args s 0 0 (Fr E)
abbrev QT (r0 : Int32) (σ' : Mem) : State → Prop := MQ below (va_Qq (fun (r : Option Nat) (u : Mem) => r = tO E r0 ∧ u = σ') (We E) (Fr E)) args s 0 0 (Fr E)
abbrev QO (r0 : Option Nat) (σ' : Mem) : State → Prop := MQ below (va_Qq (fun (r : Option Nat) (u : Mem) => r = r0.map (fun k => gB E + k) ∧ u = σ') (We E) (Fr E)) args s 0 0 (Fr E)
abbrev QIk (K : Nat) (r0 : Int32) (σ' : Mem) : State → Prop := MQ below (va_Qi (fun (r : Int32) (u : Mem) => r = r0 ∧ u = σ') (We E) (Fr E)) args s K (6 * K) (Fr E)
abbrev QX (K : Nat) (r0 : Int32 ⊕ Nat) (σ' : Mem) : State → Prop := vx_MQ below (va_Qi (fun (r : Int32) (u : Mem) => .inl r = r0 ∧ u = σ') (We E) (Fr E)) (vx_X (fun (q : Nat × Mem) => .inr q.1 = r0 ∧ q.2 = σ') (fun N q t => N = exN q.1 ∧ We E q.2 t) (Fr E)) args s K (6 * K) (Fr E)
abbrev QXV (K : Nat) (r0 : Int32 ⊕ Nat) (σ' : Mem) : State → Prop := vx_MQ below (va_Qv (fun (u : Mem) => .inl 0 = r0 ∧ u = σ') (We E) (Fr E)) (vx_X (fun (q : Nat × Mem) => .inr q.1 = r0 ∧ q.2 = σ') (fun N q t => N = exN q.1 ∧ We E q.2 t) (Fr E)) args s K (6 * K) (Fr E)
end Q
/-- a field is put -/
def pu (σ : Mem) (k i : Nat) (x : Int32) : Option Mem := some (st σ k i x)
theorem pu_x {E : GE} {σ σ' : Mem} {k i : Nat} {x : Int32} {s : State} {H : Heap} {locs : List Loc} (h : pu σ k i x = some σ') (X : Hx E (st σ k i x) s H locs) : Hx E σ' s H locs := Option.some.inj h ▸ X
section ROWS2
variable {p : Program} {l : Launch} {e : Env} {R : Room} {s : State} {m : MethodId} {args : Array Value} {below : List Frame} {meth : Method} {c : Code} {H : Heap} {locs : List Loc} {cells slots : Nat} {Q : State → Prop}
variable {cc : ByteArray} {nL pc : Nat} {ls : Array Slot} {rest : List Value} {E : GE} {σ : Mem} {own : String} {ret : Option FieldType}
theorem mx_w : Cond.static Lib.Math.max.name ∈ WU ∧ Cond.initialized "java/lang/Math" ∈ WU ∧ Cond.code Lib.Math.max.name Lib.Math.max.code 2 (some .int) ∈ WU ∧ Cond.static Lib.Math.min.name ∈ WU ∧ Cond.code Lib.Math.min.name Lib.Math.min.code 2 (some .int) ∈ WU := by
  have h : [Cond.static Lib.Math.max.name, .initialized "java/lang/Math", .code Lib.Math.max.name Lib.Math.max.code 2 (some .int), .static Lib.Math.min.name, .code Lib.Math.min.name Lib.Math.min.code 2 (some .int)].all (fun w => decide (w ∈ lw_tbl) && goodWord w) = true := by decide +kernel
  simp only [List.all_cons, List.all_nil, Bool.and_eq_true, decide_eq_true_eq, Bool.and_true] at h
  exact ⟨List.mem_filter.mpr h.1, List.mem_filter.mpr h.2.1, List.mem_filter.mpr h.2.2.1, List.mem_filter.mpr h.2.2.2.1, List.mem_filter.mpr h.2.2.2.2⟩
theorem mmax (C : Cx p s m args meth c cc ret nL own) (hls : ls.size = nL) {index : Nat} {x y : Int32} (hl : Cond.methodLink own index Lib.Math.max.name ∈ WU) (hR : 1 ≤ R.frames ∧ (rest.map fun v => v.category).sum + 13 ≤ R.locals ∧ cells ≤ R.cells ∧ slots ≤ R.slots) (d : decode cc pc = .ok (.invokestatic index, 3))
    (kk : W p l e R s m args below meth c H locs cells slots Q (F0 m (pc + 3) ls (.int (if x < y then y else x) :: rest))) : W p l e R s m args below meth c H locs cells slots Q (F0 m pc ls (.int y :: .int x :: rest)) :=
  va_mmax C.1 C.2.1 (by rw [C.ml, hls]) C.hown (C.ts _ hl) (C.ts _ mx_w.1) (C.ts _ mx_w.2.1) (C.ts _ mx_w.2.2.1) hR.1 hR.2.1 hR.2.2.1 hR.2.2.2 d kk
theorem mmin (C : Cx p s m args meth c cc ret nL own) (hls : ls.size = nL) {index : Nat} {x y : Int32} (hl : Cond.methodLink own index Lib.Math.min.name ∈ WU) (hR : 1 ≤ R.frames ∧ (rest.map fun v => v.category).sum + 13 ≤ R.locals ∧ cells ≤ R.cells ∧ slots ≤ R.slots) (d : decode cc pc = .ok (.invokestatic index, 3))
    (kk : W p l e R s m args below meth c H locs cells slots Q (F0 m (pc + 3) ls (.int (if y < x then y else x) :: rest))) : W p l e R s m args below meth c H locs cells slots Q (F0 m pc ls (.int y :: .int x :: rest)) :=
  va_mmin C.1 C.2.1 (by rw [C.ml, hls]) C.hown (C.ts _ hl) (C.ts _ mx_w.2.2.2.1) (C.ts _ mx_w.2.1) (C.ts _ mx_w.2.2.2.2) hR.1 hR.2.1 hR.2.2.1 hR.2.2.2 d kk
end ROWS2

/-! calls by contract -/
def CQ (y : MethodName) (bytes : ByteArray) (nL : Nat) (ret : Option FieldType) (n : Nat) : Prop :=
  Cond.code y bytes nL ret ∈ WU ∧ Cond.initialized y.cls ∈ WU ∧ y.cls ≠ "java/lang/invoke/MethodHandle" ∧ y.cls ≠ "java/lang/invoke/VarHandle" ∧ (parseMethodDescriptor y.desc).map (fun d => d.parameters.length) = some n
theorem CQ.len {y : MethodName} {bytes : ByteArray} {nL : Nat} {ret : Option FieldType} {n : Nat} (h : CQ y bytes nL ret n) : ∀ sig, parseMethodDescriptor y.desc = some sig → n = sig.parameters.length := fun sig hs => by
  have h2 := h.2.2.2.2
  rw [hs] at h2
  exact (Option.some.inj h2).symm
theorem cq_pay {s : State} {args : Array Value} {w0 : Cond} (hts : ∀ w ∈ WU, w.before args s = true) (h0 : w0 ∈ WU) : ∀ w ∈ w0 :: WU, ∀ (a' : Array Value) (U : State), s.WarmedH U.vm → w.before a' U = true := fun w hw a' U hW => by
  have hm : w ∈ WU := by
    rcases List.mem_cons.mp hw with rfl | h
    · exact h0
    · exact h
  exact word_at hW (good_of_word (wuG hm)) (hts w hm)
theorem cq_B {R : Room} {s : State} {args : Array Value} {own : String} {index : Nat} {y : MethodName} {bytes : ByteArray} {nL : Nat} {ret : Option FieldType} {rm : Room} {mc ms n : Nat} (hts : ∀ w ∈ WU, w.before args s = true) (q : CQ y bytes nL ret n) (hl : Cond.methodLink own index y ∈ WU) (hc : rm.cells = mc) (hs : rm.slots = ms) (hR : rm.frames + 1 ≤ R.frames ∧ 8 + (nL + 11) + rm.locals ≤ R.locals) :
    CallB R s args own index y bytes nL ret (.code y bytes nL ret :: WU) rm mc ms n :=
  ⟨hc, hs, hR.1, hR.2, cq_pay hts q.1, List.mem_cons_self, hts _ q.1, hts _ q.2.1, ⟨q.2.2.1, q.2.2.2.1⟩, q.len, hts _ hl⟩
theorem cq_N {R : Room} {s : State} {args : Array Value} {own host : String} {index : Nat} {y : MethodName} {bytes : ByteArray} {nL : Nat} {ret : Option FieldType} {rm : Room} {mc ms n : Nat} (hts : ∀ w ∈ WU, w.before args s = true) (q : CQ y bytes nL ret n) (hl : va_Nw (.methodLinkNest own index y host) s) (hc : rm.cells = mc) (hs : rm.slots = ms) (hR : rm.frames + 1 ≤ R.frames ∧ 8 + (nL + 11) + rm.locals ≤ R.locals) :
    va_CN R s args own index y host bytes nL ret (.code y bytes nL ret :: WU) rm mc ms n :=
  ⟨⟨hc, hs, hR.1, hR.2, cq_pay hts q.1, List.mem_cons_self⟩, hts _ q.1, hts _ q.2.1, ⟨q.2.2.1, q.2.2.2.1⟩, q.len, va_Nw.use rfl hl⟩
section CALLS
variable {p : Program} {l : Launch} {e : Env} {R : Room} {s : State} {m : MethodId} {args : Array Value} {below : List Frame} {meth : Method} {c : Code} {H : Heap} {locs : List Loc} {cells slots : Nat} {Q : State → Prop}
variable {cc : ByteArray} {nL pc : Nat} {ls : Array Slot} {rest st0 As : List Value} {E : GE} {σ σ' : Mem} {own host C1 : String} {ret rt : Option FieldType} {y : MethodName} {b2 : ByteArray} {n2 n h index k : Nat} {ty : FieldType} {r0 : Int32}
theorem preV (G : Gf E s) (X : Hx E σ s H locs) {b : Addr} (rc : ∃ cell : Cell, H[b]? = some cell ∧ cell.vm.isStatics = false ∧ s.vm.findClass C1 = some cell.cls) : PreV s H C1 b (va_Pc (.ref b :: As) (Wd E σ)) As :=
  ⟨Wd.blind, rc, fun U hU hW => ⟨rfl, X.warm G hU hW⟩⟩
theorem preS (G : Gf E s) (X : Hx E σ s H locs) : PreS s H (va_Pc As (Wd E σ)) As := ⟨Wd.blind, fun U hU hW => ⟨rfl, X.warm G hU hW⟩⟩
theorem runV {b : Addr} {Qc : Array Value → State → Outcome → State → Prop} (C : Cx p s m args meth c cc ret nL own) (G : Gf E s) (X : Hx E σ s H locs) (q : CQ y b2 n2 rt n) (hin : Cond.instanceMethod y ∈ WU) (hse : Cond.selects C1 y y ∈ WU) (hl : Cond.methodLink own index y ∈ WU)
    (rc : ∃ cell : Cell, H[b]? = some cell ∧ cell.vm.isStatics = false ∧ s.vm.findClass C1 = some cell.cls) (hM : Met l y (.code y b2 n2 rt :: WU) (RM h) (va_Pc (.ref b :: As) (Wd E σ)) Qc 0 0 (Fr E)) (hn : As.length = n) (hls : ls.size = nL) (hst : st0 = As.reverse ++ .ref b :: rest) (hW : (rest.map fun v => v.category).sum ≤ 8) (hR : h + 1 ≤ R.frames ∧ 19 + n2 + 48 * h ≤ R.locals) (hc : cells ≤ R.cells ∧ slots ≤ R.slots) (d : decode cc pc = .ok (.invokevirtual index, 3)) :
    va_Run p l e R s m args below meth c H locs cells slots 0 0 (F0 m pc ls st0) rest (Qc (Value.ref b :: As).toArray) (Fr E) :=
  va_runV C.fix hM ⟨cq_B C.ts q hl rfl rfl ⟨hR.1, by show 8 + (n2 + 11) + 48 * h ≤ R.locals; omega⟩, C.ts _ hin, C.ts _ hse⟩ (preV G X rc) rfl hn hls hst (lv_room hW) d hc
theorem runS {Qc : Array Value → State → Outcome → State → Prop} (C : Cx p s m args meth c cc ret nL own) (G : Gf E s) (X : Hx E σ s H locs) (q : CQ y b2 n2 rt n) (hsta : Cond.static y ∈ WU) (hl : Cond.methodLink own index y ∈ WU)
    (hM : Met l y (.code y b2 n2 rt :: WU) (RM h) (va_Pc As (Wd E σ)) Qc 0 0 (Fr E)) (hn : As.length = n) (hls : ls.size = nL) (hst : st0 = As.reverse ++ rest) (hW : (rest.map fun v => v.category).sum ≤ 8) (hR : h + 1 ≤ R.frames ∧ 19 + n2 + 48 * h ≤ R.locals) (hc : cells ≤ R.cells ∧ slots ≤ R.slots) (d : decode cc pc = .ok (.invokestatic index, 3)) :
    va_Run p l e R s m args below meth c H locs cells slots 0 0 (F0 m pc ls st0) rest (Qc As.toArray) (Fr E) :=
  va_runS C.fix hM ⟨cq_B C.ts q hl rfl rfl ⟨hR.1, by show 8 + (n2 + 11) + 48 * h ≤ R.locals; omega⟩, C.ts _ hsta⟩ (preS G X) rfl hn hls hst (lv_room hW) d hc
theorem runN {Qc : Array Value → State → Outcome → State → Prop} (C : Cx p s m args meth c cc ret nL own) (G : Gf E s) (X : Hx E σ s H locs) (q : CQ y b2 n2 rt n) (hsta : Cond.static y ∈ WU) (hl : Cond.methodLinkNest own index y host ∈ nstL)
    (hM : Met l y (.code y b2 n2 rt :: WU) (RM h) (va_Pc As (Wd E σ)) Qc 0 0 (Fr E)) (hn : As.length = n) (hls : ls.size = nL) (hst : st0 = As.reverse ++ rest) (hW : (rest.map fun v => v.category).sum ≤ 8) (hR : h + 1 ≤ R.frames ∧ 19 + n2 + 48 * h ≤ R.locals) (hc : cells ≤ R.cells ∧ slots ≤ R.slots) (d : decode cc pc = .ok (.invokestatic index, 3)) :
    va_Run p l e R s m args below meth c H locs cells slots 0 0 (F0 m pc ls st0) rest (Qc As.toArray) (Fr E) :=
  va_runSN C.fix hM ⟨cq_N C.ts q (G.2.1.1 _ hl) rfl rfl ⟨hR.1, by show 8 + (n2 + 11) + 48 * h ≤ R.locals; omega⟩, C.ts _ hsta, trivial⟩ (preS G X) rfl hn hls hst (lv_room hW) d hc
theorem afI {a : Array Value} (X : Hx E σ s H locs) (hr : va_Run p l e R s m args below meth c H locs cells slots 0 0 (F0 m pc ls st0) rest (va_Qi (fun (r : Int32) (u : Mem) => r = r0 ∧ u = σ') (We E) (Fr E) a) (Fr E))
    (kk : ∀ (H1 : Heap) (locs1 : List Loc), Hx E σ' s H1 locs1 → W p l e R s m args below meth c H1 locs1 cells slots Q (F0 m (pc + 3) ls (.int r0 :: rest))) : W p l e R s m args below meth c H locs cells slots Q (F0 m pc ls st0) :=
  va_calli hr X.2 (fun _ _ h => h) (fun _ h => h) (fun r u t H1 locs1 ht _ hp hb _ _ hS => by
    obtain ⟨rfl, rfl⟩ := hp
    exact kk H1 locs1 ⟨by rw [← ht]; exact hb, hS⟩)
theorem afL {a : Array Value} {r0 : Int64} (X : Hx E σ s H locs) (hr : va_Run p l e R s m args below meth c H locs cells slots 0 0 (F0 m pc ls st0) rest (va_Ql (fun (r : Int64) (u : Mem) => r = r0 ∧ u = σ') (We E) (Fr E) a) (Fr E))
    (kk : ∀ (H1 : Heap) (locs1 : List Loc), Hx E σ' s H1 locs1 → W p l e R s m args below meth c H1 locs1 cells slots Q (F0 m (pc + 3) ls (.long r0 :: rest))) : W p l e R s m args below meth c H locs cells slots Q (F0 m pc ls st0) :=
  va_calll hr X.2 (fun _ _ h => h) (fun _ h => h) (fun r u t H1 locs1 ht _ hp hb _ _ hS => by
    obtain ⟨rfl, rfl⟩ := hp
    exact kk H1 locs1 ⟨by rw [← ht]; exact hb, hS⟩)
theorem afV {a : Array Value} (X : Hx E σ s H locs) (hr : va_Run p l e R s m args below meth c H locs cells slots 0 0 (F0 m pc ls st0) rest (va_Qv (fun (u : Mem) => u = σ') (We E) (Fr E) a) (Fr E))
    (kk : ∀ (H1 : Heap) (locs1 : List Loc), Hx E σ' s H1 locs1 → W p l e R s m args below meth c H1 locs1 cells slots Q (F0 m (pc + 3) ls rest)) : W p l e R s m args below meth c H locs cells slots Q (F0 m pc ls st0) :=
  va_callv hr X.2 (fun _ _ h => h) (fun _ h => h) (fun u t H1 locs1 ht _ hp hb _ _ hS => by
    subst hp
    exact kk H1 locs1 ⟨by rw [← ht]; exact hb, hS⟩)
theorem afQ {a : Array Value} {o : Option Nat} (X : Hx E σ s H locs) (hr : va_Run p l e R s m args below meth c H locs cells slots 0 0 (F0 m pc ls st0) rest (va_Qq (fun (r : Option Nat) (u : Mem) => r = o ∧ u = σ') (We E) (Fr E) a) (Fr E))
    (kk : ∀ (H1 : Heap) (locs1 : List Loc), Hx E σ' s H1 locs1 → W p l e R s m args below meth c H1 locs1 cells slots Q (F0 m (pc + 3) ls (va_rf o :: rest))) : W p l e R s m args below meth c H locs cells slots Q (F0 m pc ls st0) :=
  va_callq hr X.2 (fun _ _ h => h) (fun _ h => h) (fun r u t H1 locs1 ht _ hp hb _ _ hS => by
    obtain ⟨rfl, rfl⟩ := hp
    exact kk H1 locs1 ⟨by rw [← ht]; exact hb, hS⟩)
/-- ends -/
theorem rtI (C : Cx p s m args meth c cc (some .int) nL own) (X : Hx E σ s H locs) (d : decode cc pc = .ok (.ireturn, 1)) : W p l e R s m args below meth c H locs cells slots (MQ below (va_Qi (fun (r : Int32) (u : Mem) => r = r0 ∧ u = σ) (We E) (Fr E)) args s cells slots (Fr E)) (F0 m pc ls [.int r0]) :=
  W.iret C.1 C.2.1 C.2.2.1 (fun t ht _ => ⟨⟨r0, σ, rfl, ⟨rfl, rfl⟩, by rw [We, ht]; exact X.1⟩, X.2.F ht⟩) X.2.2.2 d C.lk
theorem rtZ (C : Cx p s m args meth c cc (some .boolean) nL own) (X : Hx E σ s H locs) (hz : narrow .boolean (.int r0) = .int r0 ∧ fits .boolean (.int r0) = true) (d : decode cc pc = .ok (.ireturn, 1)) : W p l e R s m args below meth c H locs cells slots (MQ below (va_Qi (fun (r : Int32) (u : Mem) => r = r0 ∧ u = σ) (We E) (Fr E)) args s cells slots (Fr E)) (F0 m pc ls [.int r0]) :=
  W.zret C.1 C.2.1 C.2.2.1 hz.1 (fun t ht _ => ⟨⟨r0, σ, rfl, ⟨rfl, rfl⟩, by rw [We, ht]; exact X.1⟩, X.2.F ht⟩) X.2.2.2 d C.lk
theorem rtV (C : Cx p s m args meth c cc none nL own) (X : Hx E σ s H locs) (d : decode cc pc = .ok (.return_, 1)) : W p l e R s m args below meth c H locs cells slots (MQ below (va_Qv (fun (u : Mem) => u = σ) (We E) (Fr E)) args s cells slots (Fr E)) (F0 m pc ls []) :=
  W.vret C.1 C.2.1 C.2.2.1 (fun t ht _ => ⟨⟨σ, rfl, rfl, by rw [We, ht]; exact X.1⟩, X.2.F ht⟩) X.2.2.2 d C.lk
theorem rtL {r0 : Int64} (C : Cx p s m args meth c cc (some .long) nL own) (X : Hx E σ s H locs) (d : decode cc pc = .ok (.lreturn, 1)) : W p l e R s m args below meth c H locs cells slots (MQ below (va_Ql (fun (r : Int64) (u : Mem) => r = r0 ∧ u = σ) (We E) (Fr E)) args s cells slots (Fr E)) (F0 m pc ls [.long r0]) :=
  W.lret C.1 C.2.1 C.2.2.1 (fun t ht _ => ⟨⟨r0, σ, rfl, ⟨rfl, rfl⟩, by rw [We, ht]; exact X.1⟩, X.2.F ht⟩) X.2.2.2 d C.lk
theorem rtQ {o : Option Nat} {Cn : String} (C : Cx p s m args meth c cc (some (.object Cn)) nL own) (X : Hx E σ s H locs) (d : decode cc pc = .ok (.areturn, 1)) : W p l e R s m args below meth c H locs cells slots (MQ below (va_Qq (fun (r : Option Nat) (u : Mem) => r = o ∧ u = σ) (We E) (Fr E)) args s cells slots (Fr E)) (F0 m pc ls [va_rf o]) :=
  W.aret C.1 C.2.1 C.2.2.1 (Or.inl ⟨Cn, rfl⟩) (va_rf_or o) (fun t ht _ => ⟨⟨o, σ, rfl, ⟨rfl, rfl⟩, by rw [We, ht]; exact X.1⟩, X.2.F ht⟩) X.2.2.2 d C.lk
theorem start {As : List Value} (hv : va_Pc As (Wd E σ) args s) : args = As.toArray ∧ Gf E s ∧ Hx E σ s s.heap [] := ⟨hv.1, hv.2.2, hv.2.1, va_S.rf⟩
theorem cxof {rm : Room} {s₁ : State} {ty0 : Option FieldType} (B : BodyLoose p l y (headSpec (.code y b2 n2 ty0 :: WU) rm) b2 n2 ty0 e s m args below meth c s₁) (hml : c.maxLocals = n2) : Cx p s m args meth c b2 ty0 n2 y.cls :=
  ⟨B.exec, B.bytes, B.returns, hml, findClass_of_methodNamed B.named, fun w hw => atoms_spec (ws := .code y b2 n2 ty0 :: WU) B.pre w (List.mem_cons_of_mem _ hw), B.notSynchronized⟩
end CALLS

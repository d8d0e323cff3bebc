/-! throws -/
def ngL : List Cond := dclL.map .declares ++ cstL.map (fun q => .castable q.1 q.2)
def exC : List String := ["java/lang/RuntimeException", "java/lang/Exception"]
def inW (w : Cond) : Bool := decide (w ∈ lw_tbl) && goodWord w
theorem inW_s {w : Cond} (h : inW w = true) : w ∈ WU := by
  simp only [inW, Bool.and_eq_true, decide_eq_true_eq] at h
  exact List.mem_filter.mpr h
/-- the words of a throw in class own by the constructor's entry ic -/
def thq (own cls : String) (ic : Nat) : Bool := (vx_atS own ic cls exC).all (fun w => (inW w || decide (w ∈ ngL)) && vx_ot w) && Bundle.fit cls
theorem exC_fit : ∀ n ∈ exC, Bundle.fit n = true := by decide +kernel
section ROWS4
variable {p : Program} {l : Launch} {e : Env} {R : Room} {s : State} {m : MethodId} {args : Array Value} {below : List Frame} {meth : Method} {c : Code} {H : Heap} {locs : List Loc} {cells slots : Nat} {Q : State → Prop}
variable {cc : ByteArray} {nL pc : Nat} {ls : Array Slot} {rest st0 As : List Value} {E : GE} {σ σ' : Mem} {own host C1 : String} {ret rt : Option FieldType} {y : MethodName} {b2 : ByteArray} {n2 n h index k K : Nat} {ty : FieldType}
theorem ng_s (G : Gf E s) : ∀ w ∈ ngL, w.before args s = true := by
  intro w hw
  rcases List.mem_append.mp hw with q | q
  · obtain ⟨x, hx, rfl⟩ := List.mem_map.mp q
    exact va_Nw.use rfl (G.2.1.2.1 x hx)
  · obtain ⟨x, hx, rfl⟩ := List.mem_map.mp q
    exact va_Nw.use rfl (G.2.1.2.2.1 x hx)
theorem th_at (C : Cx p s m args meth c cc ret nL own) (G : Gf E s) {cls : String} {ic : Nat} (q : thq own cls ic = true) : (∀ w ∈ vx_atS own ic cls exC, w.before args s = true) ∧ (∀ w ∈ vx_atS own ic cls exC, vx_ot w = true) ∧ Bundle.fit cls = true := by
  simp only [thq, Bool.and_eq_true] at q
  refine ⟨fun w hw => ?_, fun w hw => ?_, q.2⟩
  · have h1 := List.all_eq_true.mp q.1 w hw
    simp only [Bool.and_eq_true, Bool.or_eq_true, decide_eq_true_eq] at h1
    rcases h1.1 with h2 | h2
    · exact C.ts _ (inW_s h2)
    · exact ng_s G _ h2
  · have h1 := List.all_eq_true.mp q.1 w hw
    simp only [Bool.and_eq_true] at h1
    exact h1.2
theorem ot_good {w : Cond} (h : w ∈ WU) : vx_ot w = true := by
  unfold vx_ot; rw [wuG h, Bool.or_true]
theorem XC_of {x : Nat} {cls : String} (hx : exN x = cls) (X : Hx E σ s H locs) : ∀ t : State, s.vm.Alike t.vm → H.size ≤ t.heap.size → (∀ q : Nat, q < H.size → t.heap[q]? = H[q]?) →
    (vx_X (fun (q : Nat × Mem) => (.inr q.1 : Int32 ⊕ Nat) = .inr x ∧ q.2 = σ) (fun N q t => N = exN q.1 ∧ We E q.2 t) (Fr E)) cls s t := fun t _ hz hq =>
  ⟨(x, σ), ⟨rfl, rfl⟩, ⟨hx.symm, X.1.kept (fun k q hk => hq _ (X.1 k q hk).lt)⟩, Nat.le_trans X.2.1 hz, fun q h1 h2 => by rw [hq q (Nat.lt_of_lt_of_le h1 X.2.1)]; exact X.2.2.1 q h1 h2⟩
theorem thS {h9 : Nat} (C : Cx p s m args meth c cc ret nL own) (G : Gf E s) (X : Hx E σ s H locs) (T0 : ∀ x ∈ c.exceptionTable.toList, False) (hT : l.stackTraces = false) {x : Nat} {cls text : String} {ik is ic : Nat} (hx : exN x = cls) (hk : Cond.classLink own ik cls ∈ WU) (hi : Cond.initialized cls ∈ WU) (hth : thq own cls ic = true) (hms : (own, is, text) ∈ msgL) (hls : ls.size = nL)
    (d0 : decode cc pc = .ok (.new ik, 3)) (d3 : decode cc (pc + 3) = .ok (.dup, 1)) (d4 : decode cc (pc + 4) = .ok (.ldc is, 2)) (d6 : decode cc (pc + 6) = .ok (.invokespecial ic, 3)) (d9 : decode cc (pc + 9) = .ok (.athrow, 1))
    (hR : 5 < h9) (hRl : (rest.map fun v => v.category).sum + 82 ≤ 48 * h9) (hc : cells + 1 ≤ K) (hs : slots + 6 ≤ 6 * K) :
    W p l e (RX h9 K) s m args below meth c H locs cells slots (QX E below args s K (.inr x) σ) (F0 m pc ls rest) := by
  obtain ⟨sa, hsa⟩ := G.2.2.2.2.1.2.2 _ hms
  obtain ⟨h1, h2, h3⟩ := th_at C G hth
  exact vx_throwS C.1 C.2.1 hT C.hown h3 exC_fit (C.ts _ hk) (C.ts _ hi) hsa h1 (fun w hw => by
      rcases List.mem_cons.mp hw with rfl | hw
      · exact ot_good hk
      · rcases List.mem_cons.mp hw with rfl | hw
        · exact ot_good hi
        · exact h2 w hw) G.2.2.2.2.2.1 G.2.2.2.2.2.2.1 X.2 (hls.trans C.ml.symm) d0 d3 d4 d6 d9 (fun z hz => (T0 z hz).elim) hR hRl hc hs C.lk (XC_of hx X) X.2.2.2 hc hs
theorem thSW {h9 : Nat} (C : Cx p s m args meth c cc ret nL own) (G : Gf E s) (X : Hx E σ s H locs) (T0 : ∀ x ∈ c.exceptionTable.toList, False) (hT : l.stackTraces = false) {x : Nat} {cls text : String} {ik is ic : Nat} (hx : exN x = cls) (hk : Cond.classLink own ik cls ∈ WU) (hi : Cond.initialized cls ∈ WU) (hth : thq own cls ic = true) (hms : (own, is, text) ∈ msgL) (hls : ls.size = nL)
    (d0 : decode cc pc = .ok (.new ik, 3)) (d3 : decode cc (pc + 3) = .ok (.dup, 1)) (d4 : decode cc (pc + 4) = .ok (.ldc_w is, 3)) (d6 : decode cc (pc + 7) = .ok (.invokespecial ic, 3)) (d9 : decode cc (pc + 10) = .ok (.athrow, 1))
    (hR : 5 < h9) (hRl : (rest.map fun v => v.category).sum + 82 ≤ 48 * h9) (hc : cells + 1 ≤ K) (hs : slots + 6 ≤ 6 * K) :
    W p l e (RX h9 K) s m args below meth c H locs cells slots (QX E below args s K (.inr x) σ) (F0 m pc ls rest) := by
  obtain ⟨sa, hsa⟩ := G.2.2.2.2.1.2.2 _ hms
  obtain ⟨h1, h2, h3⟩ := th_at C G hth
  exact vx_throwSW C.1 C.2.1 hT C.hown h3 exC_fit (C.ts _ hk) (C.ts _ hi) hsa h1 (fun w hw => by
      rcases List.mem_cons.mp hw with rfl | hw
      · exact ot_good hk
      · rcases List.mem_cons.mp hw with rfl | hw
        · exact ot_good hi
        · exact h2 w hw) G.2.2.2.2.2.1 G.2.2.2.2.2.2.1 X.2 (hls.trans C.ml.symm) d0 d3 d4 d6 d9 (fun z hz => (T0 z hz).elim) hR hRl hc hs C.lk (XC_of hx X) X.2.2.2 hc hs
theorem thSV {h9 : Nat} (C : Cx p s m args meth c cc ret nL own) (G : Gf E s) (X : Hx E σ s H locs) (T0 : ∀ x ∈ c.exceptionTable.toList, False) (hT : l.stackTraces = false) {x : Nat} {cls text : String} {ik is ic : Nat} (hx : exN x = cls) (hk : Cond.classLink own ik cls ∈ WU) (hi : Cond.initialized cls ∈ WU) (hth : thq own cls ic = true) (hms : (own, is, text) ∈ msgL) (hls : ls.size = nL)
    (d0 : decode cc pc = .ok (.new ik, 3)) (d3 : decode cc (pc + 3) = .ok (.dup, 1)) (d4 : decode cc (pc + 4) = .ok (.ldc is, 2)) (d6 : decode cc (pc + 6) = .ok (.invokespecial ic, 3)) (d9 : decode cc (pc + 9) = .ok (.athrow, 1))
    (hR : 5 < h9) (hRl : (rest.map fun v => v.category).sum + 82 ≤ 48 * h9) (hc : cells + 1 ≤ K) (hs : slots + 6 ≤ 6 * K) :
    W p l e (RX h9 K) s m args below meth c H locs cells slots (QXV E below args s K (.inr x) σ) (F0 m pc ls rest) := by
  obtain ⟨sa, hsa⟩ := G.2.2.2.2.1.2.2 _ hms
  obtain ⟨h1, h2, h3⟩ := th_at C G hth
  exact vx_throwS C.1 C.2.1 hT C.hown h3 exC_fit (C.ts _ hk) (C.ts _ hi) hsa h1 (fun w hw => by
      rcases List.mem_cons.mp hw with rfl | hw
      · exact ot_good hk
      · rcases List.mem_cons.mp hw with rfl | hw
        · exact ot_good hi
        · exact h2 w hw) G.2.2.2.2.2.1 G.2.2.2.2.2.2.1 X.2 (hls.trans C.ml.symm) d0 d3 d4 d6 d9 (fun z hz => (T0 z hz).elim) hR hRl hc hs C.lk (XC_of hx X) X.2.2.2 hc hs
theorem thSWV {h9 : Nat} (C : Cx p s m args meth c cc ret nL own) (G : Gf E s) (X : Hx E σ s H locs) (T0 : ∀ x ∈ c.exceptionTable.toList, False) (hT : l.stackTraces = false) {x : Nat} {cls text : String} {ik is ic : Nat} (hx : exN x = cls) (hk : Cond.classLink own ik cls ∈ WU) (hi : Cond.initialized cls ∈ WU) (hth : thq own cls ic = true) (hms : (own, is, text) ∈ msgL) (hls : ls.size = nL)
    (d0 : decode cc pc = .ok (.new ik, 3)) (d3 : decode cc (pc + 3) = .ok (.dup, 1)) (d4 : decode cc (pc + 4) = .ok (.ldc_w is, 3)) (d6 : decode cc (pc + 7) = .ok (.invokespecial ic, 3)) (d9 : decode cc (pc + 10) = .ok (.athrow, 1))
    (hR : 5 < h9) (hRl : (rest.map fun v => v.category).sum + 82 ≤ 48 * h9) (hc : cells + 1 ≤ K) (hs : slots + 6 ≤ 6 * K) :
    W p l e (RX h9 K) s m args below meth c H locs cells slots (QXV E below args s K (.inr x) σ) (F0 m pc ls rest) := by
  obtain ⟨sa, hsa⟩ := G.2.2.2.2.1.2.2 _ hms
  obtain ⟨h1, h2, h3⟩ := th_at C G hth
  exact vx_throwSW C.1 C.2.1 hT C.hown h3 exC_fit (C.ts _ hk) (C.ts _ hi) hsa h1 (fun w hw => by
      rcases List.mem_cons.mp hw with rfl | hw
      · exact ot_good hk
      · rcases List.mem_cons.mp hw with rfl | hw
        · exact ot_good hi
        · exact h2 w hw) G.2.2.2.2.2.1 G.2.2.2.2.2.2.1 X.2 (hls.trans C.ml.symm) d0 d3 d4 d6 d9 (fun z hz => (T0 z hz).elim) hR hRl hc hs C.lk (XC_of hx X) X.2.2.2 hc hs
/-- calls of throwers -/
theorem runXV {b : Addr} {Qc : Array Value → State → Outcome → State → Prop} {XC : String → State → State → Prop} (C : Cx p s m args meth c cc ret nL own) (G : Gf E s) (X : Hx E σ s H locs) (q : CQ y b2 n2 rt n) (hin : Cond.instanceMethod y ∈ WU) (hse : Cond.selects C1 y y ∈ WU) (hl : Cond.methodLink own index y ∈ WU)
    (rc : ∃ cell : Cell, H[b]? = some cell ∧ cell.vm.isStatics = false ∧ s.vm.findClass C1 = some cell.cls) (hM : vx_Met l y (.code y b2 n2 rt :: WU) (RX h K) (va_Pc (.ref b :: As) (Wd E σ)) Qc XC K (6 * K) (Fr E)) (hn : As.length = n) (hls : ls.size = nL) (hst : st0 = As.reverse ++ .ref b :: rest) (hW : (rest.map fun v => v.category).sum ≤ 8) (hR : h + 1 ≤ R.frames ∧ 19 + n2 + 48 * h ≤ R.locals) (hc : cells + K ≤ R.cells ∧ slots + 6 * K ≤ R.slots) (d : decode cc pc = .ok (.invokevirtual index, 3)) :
    vx_Run p l e R s m args below meth c H locs cells slots K (6 * K) (F0 m pc ls st0) rest (Qc (Value.ref b :: As).toArray) XC (Fr E) :=
  vx_runV C.fix hM ⟨cq_B C.ts q hl rfl rfl ⟨hR.1, by show 8 + (n2 + 11) + 48 * h ≤ R.locals; omega⟩, C.ts _ hin, C.ts _ hse⟩ (preV G X rc) rfl hn hls hst (lv_room hW) d hc
theorem runXS {Qc : Array Value → State → Outcome → State → Prop} {XC : String → State → State → Prop} (C : Cx p s m args meth c cc ret nL own) (G : Gf E s) (X : Hx E σ s H locs) (q : CQ y b2 n2 rt n) (hsta : Cond.static y ∈ WU) (hl : Cond.methodLink own index y ∈ WU)
    (hM : vx_Met l y (.code y b2 n2 rt :: WU) (RX h K) (va_Pc As (Wd E σ)) Qc XC K (6 * K) (Fr E)) (hn : As.length = n) (hls : ls.size = nL) (hst : st0 = As.reverse ++ rest) (hW : (rest.map fun v => v.category).sum ≤ 8) (hR : h + 1 ≤ R.frames ∧ 19 + n2 + 48 * h ≤ R.locals) (hc : cells + K ≤ R.cells ∧ slots + 6 * K ≤ R.slots) (d : decode cc pc = .ok (.invokestatic index, 3)) :
    vx_Run p l e R s m args below meth c H locs cells slots K (6 * K) (F0 m pc ls st0) rest (Qc As.toArray) XC (Fr E) :=
  vx_runS C.fix hM ⟨cq_B C.ts q hl rfl rfl ⟨hR.1, by show 8 + (n2 + 11) + 48 * h ≤ R.locals; omega⟩, C.ts _ hsta⟩ (preS G X) rfl hn hls hst (lv_room hW) d hc
theorem axI {a : Array Value} {r0 : Int32 ⊕ Nat} (X : Hx E σ s H locs) (hr : vx_Run p l e R s m args below meth c H locs cells slots K (6 * K) (F0 m pc ls st0) rest (va_Qi (fun (r : Int32) (u : Mem) => .inl r = r0 ∧ u = σ') (We E) (Fr E) a) (vx_X (fun (q : Nat × Mem) => .inr q.1 = r0 ∧ q.2 = σ') (fun N q t => N = exN q.1 ∧ We E q.2 t) (Fr E)) (Fr E))
    (kk : ∀ (r : Int32) (H1 : Heap) (locs1 : List Loc), r0 = .inl r → Hx E σ' s H1 locs1 → W p l e R s m args below meth c H1 locs1 (cells + K) (slots + 6 * K) Q (F0 m (pc + 3) ls (.int r :: rest)))
    (kx : ∀ (x : Nat) (H1 : Heap) (locs1 : List Loc) (q : Addr) (ce : Cell), r0 = .inr x → Hx E σ' s H1 locs1 → H1[q]? = some ce → ce.vm = .none → s.vm.findClass (exN x) = some ce.cls → vx_W p l e R s m args below meth c H1 locs1 (cells + K) (slots + 6 * K) Q (F0 m pc ls rest) q) : W p l e R s m args below meth c H locs cells slots Q (F0 m pc ls st0) :=
  vx_calli hr X.2 (fun _ _ h => h) (fun _ h => h) (fun _ _ h => h) (fun E9 ce q u t H1 locs1 ht _ hp hb _ _ hS hz hv hcl => by
    obtain ⟨x, v⟩ := u
    obtain ⟨h1, rfl⟩ := hp
    obtain ⟨rfl, h2⟩ := hb
    exact kx x H1 locs1 q ce h1.symm ⟨by rw [← ht]; exact h2, hS⟩ hz hv hcl) (fun r u t H1 locs1 ht _ hp hb _ _ hS => by
    obtain ⟨h1, rfl⟩ := hp
    exact kk r H1 locs1 h1.symm ⟨by rw [← ht]; exact hb, hS⟩)
theorem axV {a : Array Value} {r0 : Int32 ⊕ Nat} (X : Hx E σ s H locs) (hr : vx_Run p l e R s m args below meth c H locs cells slots K (6 * K) (F0 m pc ls st0) rest (va_Qv (fun (u : Mem) => .inl 0 = r0 ∧ u = σ') (We E) (Fr E) a) (vx_X (fun (q : Nat × Mem) => .inr q.1 = r0 ∧ q.2 = σ') (fun N q t => N = exN q.1 ∧ We E q.2 t) (Fr E)) (Fr E))
    (kk : ∀ (r : Int32) (H1 : Heap) (locs1 : List Loc), r0 = .inl r → Hx E σ' s H1 locs1 → W p l e R s m args below meth c H1 locs1 (cells + K) (slots + 6 * K) Q (F0 m (pc + 3) ls rest))
    (kx : ∀ (x : Nat) (H1 : Heap) (locs1 : List Loc) (q : Addr) (ce : Cell), r0 = .inr x → Hx E σ' s H1 locs1 → H1[q]? = some ce → ce.vm = .none → s.vm.findClass (exN x) = some ce.cls → vx_W p l e R s m args below meth c H1 locs1 (cells + K) (slots + 6 * K) Q (F0 m pc ls rest) q) : W p l e R s m args below meth c H locs cells slots Q (F0 m pc ls st0) :=
  vx_callv hr X.2 (fun _ _ h => h) (fun _ h => h) (fun _ _ h => h) (fun E9 ce q u t H1 locs1 ht _ hp hb _ _ hS hz hv hcl => by
    obtain ⟨x, v⟩ := u
    obtain ⟨h1, rfl⟩ := hp
    obtain ⟨rfl, h2⟩ := hb
    exact kx x H1 locs1 q ce h1.symm ⟨by rw [← ht]; exact h2, hS⟩ hz hv hcl) (fun u t H1 locs1 ht _ hp hb _ _ hS => by
    obtain ⟨h1, rfl⟩ := hp
    exact kk 0 H1 locs1 h1.symm ⟨by rw [← ht]; exact hb, hS⟩)
theorem xout {x : Nat} {q : Addr} {ce : Cell} (C : Cx p s m args meth c cc ret nL own) (X : Hx E σ s H locs) (T0 : ∀ x ∈ c.exceptionTable.toList, False) (hz : H[q]? = some ce) (hv : ce.vm = .none) (hcl : s.vm.findClass (exN x) = some ce.cls) (hc : cells ≤ K) (hs : slots ≤ 6 * K) :
    vx_W p l e R s m args below meth c H locs cells slots (QX E below args s K (.inr x) σ) (F0 m pc ls rest) q :=
  vx_out (fun z hz => (T0 z hz).elim) C.lk hz hv hcl (fun t ht hA => XC_of rfl X t hA (by rw [ht]; exact Nat.le_refl _) (fun _ _ => by rw [ht])) X.2.2.2 hc hs
theorem xoutV {x : Nat} {q : Addr} {ce : Cell} (C : Cx p s m args meth c cc ret nL own) (X : Hx E σ s H locs) (T0 : ∀ x ∈ c.exceptionTable.toList, False) (hz : H[q]? = some ce) (hv : ce.vm = .none) (hcl : s.vm.findClass (exN x) = some ce.cls) (hc : cells ≤ K) (hs : slots ≤ 6 * K) :
    vx_W p l e R s m args below meth c H locs cells slots (QXV E below args s K (.inr x) σ) (F0 m pc ls rest) q :=
  vx_out (fun z hz => (T0 z hz).elim) C.lk hz hv hcl (fun t ht hA => XC_of rfl X t hA (by rw [ht]; exact Nat.le_refl _) (fun _ _ => by rw [ht])) X.2.2.2 hc hs
theorem rtxI {r0 : Int32} (C : Cx p s m args meth c cc (some .int) nL own) (X : Hx E σ s H locs) (d : decode cc pc = .ok (.ireturn, 1)) : W p l e R s m args below meth c H locs cells slots (MQ below (va_Qi (fun (r : Int32) (u : Mem) => (.inl r : Int32 ⊕ Nat) = .inl r0 ∧ u = σ) (We E) (Fr E)) args s cells slots (Fr E)) (F0 m pc ls [.int r0]) :=
  W.iret C.1 C.2.1 C.2.2.1 (fun t ht _ => ⟨⟨r0, σ, rfl, ⟨rfl, rfl⟩, by rw [We, ht]; exact X.1⟩, X.2.F ht⟩) X.2.2.2 d C.lk
theorem rtxZ {r0 : Int32} (C : Cx p s m args meth c cc (some .boolean) nL own) (X : Hx E σ s H locs) (hz : narrow .boolean (.int r0) = .int r0 ∧ fits .boolean (.int r0) = true) (d : decode cc pc = .ok (.ireturn, 1)) : W p l e R s m args below meth c H locs cells slots (MQ below (va_Qi (fun (r : Int32) (u : Mem) => (.inl r : Int32 ⊕ Nat) = .inl r0 ∧ u = σ) (We E) (Fr E)) args s cells slots (Fr E)) (F0 m pc ls [.int r0]) :=
  W.zret C.1 C.2.1 C.2.2.1 hz.1 (fun t ht _ => ⟨⟨r0, σ, rfl, ⟨rfl, rfl⟩, by rw [We, ht]; exact X.1⟩, X.2.F ht⟩) X.2.2.2 d C.lk
theorem rtxV (C : Cx p s m args meth c cc none nL own) (X : Hx E σ s H locs) (d : decode cc pc = .ok (.return_, 1)) : W p l e R s m args below meth c H locs cells slots (MQ below (va_Qv (fun (u : Mem) => (.inl 0 : Int32 ⊕ Nat) = .inl 0 ∧ u = σ) (We E) (Fr E)) args s cells slots (Fr E)) (F0 m pc ls []) :=
  W.vret C.1 C.2.1 C.2.2.1 (fun t ht _ => ⟨⟨σ, rfl, ⟨rfl, rfl⟩, by rw [We, ht]; exact X.1⟩, X.2.F ht⟩) X.2.2.2 d C.lk
/-- a receiver that is a Term -/
theorem runVT {x : Int32} {Qc : Array Value → State → Outcome → State → Prop} {u : Unit} (C : Cx p s m args meth c cc ret nL own) (G : Gf E s) (X : Hx E σ s H locs) (hx : gt x = some u) (q : CQ y b2 n2 rt n) (hin : Cond.instanceMethod y ∈ WU) (hse : Cond.selects "PaneStreet$Term" y y ∈ WU) (hl : Cond.methodLink own index y ∈ WU)
    (hM : Met l y (.code y b2 n2 rt :: WU) (RM h) (va_Pc (tV E x :: As) (Wd E σ)) Qc 0 0 (Fr E)) (hn : As.length = n) (hls : ls.size = nL) (hst : st0 = As.reverse ++ tV E x :: rest) (hW : (rest.map fun v => v.category).sum ≤ 8) (hR : h + 1 ≤ R.frames ∧ 19 + n2 + 48 * h ≤ R.locals) (hc : cells ≤ R.cells ∧ slots ≤ R.slots) (d : decode cc pc = .ok (.invokevirtual index, 3)) :
    va_Run p l e R s m args below meth c H locs cells slots 0 0 (F0 m pc ls st0) rest (Qc (tV E x :: As).toArray) (Fr E) := by
  obtain ⟨i, hi, -, hv⟩ := gt_s (E := E) hx
  rw [hv] at hM hst ⊢
  exact runV C G X q hin hse hl (rcT G X hi) hM hn hls hst hW hR hc d
end ROWS4

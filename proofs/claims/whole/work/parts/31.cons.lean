/-! the world while it is made -/
def zr (t : Nat) : Nat → Int32 := fun i => match t with
  | 2 => if i = 7 then 1 else 0
  | 3 => if i = 0 then -1 else 0
  | 4 => if i = 6 then -1 else 0
  | 10 => if i = 12 then -1 else 0
  | _ => 0
def z0 : Mem := fun a => zr (kd a)
def cwd (E : GE) (f : Nat → va_E) (n : Nat) : va_W := (List.range n).map (fun k => (gB E + k, f k))
theorem cwd_at {E : GE} {f : Nat → va_E} {n k : Nat} (h : k < n) : (cwd E f n)[k]? = some (gB E + k, f k) := by
  rw [cwd, List.getElem?_map, List.getElem?_range h]; rfl
theorem cwd_q {E : GE} {f : Nat → va_E} {n k : Nat} {q : Nat × va_E} (h : (cwd E f n)[k]? = some q) : k < n ∧ q = (gB E + k, f k) := by
  rcases Nat.lt_or_ge k n with z | z
  · rw [cwd_at z] at h; exact ⟨z, (Option.some.inj h).symm⟩
  · rw [List.getElem?_eq_none (by rw [cwd, List.length_map, List.length_range]; exact z)] at h; cases h
theorem cwd_set {E : GE} {f : Nat → va_E} {n k : Nat} {e : va_E} (h : k < n) : (cwd E f n).set k (gB E + k, e) = cwd E (va_up f k e) n := by
  apply List.ext_getElem?
  intro j
  by_cases hj : j = k
  · subst hj
    rw [List.getElem?_set_self (by rw [cwd, List.length_map, List.length_range]; exact h), cwd_at h, va_up, if_pos rfl]
  · rw [List.getElem?_set_ne (Ne.symm hj)]
    rcases Nat.lt_or_ge j n with q | q
    · rw [cwd_at q, cwd_at q, va_up, if_neg hj]
    · rw [List.getElem?_eq_none (by rw [cwd, List.length_map, List.length_range]; exact q), List.getElem?_eq_none (by rw [cwd, List.length_map, List.length_range]; exact q)]
theorem cwdD {E : GE} {f : Nat → va_E} {n : Nat} : va_D (Fr E) (cwd E f n) := by
  refine ⟨fun i j p q hi hj e => ?_, fun k q h => ?_⟩
  · obtain ⟨-, rfl⟩ := cwd_q hi
    obtain ⟨-, rfl⟩ := cwd_q hj
    exact Nat.add_left_cancel e
  · obtain ⟨-, rfl⟩ := cwd_q h
    exact Nat.le_add_right _ _
theorem cwd_P {E : GE} {f : Nat → va_E} {n : Nat} {H : Heap} : va_P (gD E) vwCl (cwd E f n) H ↔ ∀ k, k < n → va_at (gD E) vwCl (gB E + k, f k) H := by
  refine ⟨fun h k hk => h k _ (cwd_at hk), fun h k q hq => ?_⟩
  obtain ⟨hk, rfl⟩ := cwd_q hq
  exact h k hk
def Hc (E : GE) (f : Nat → va_E) (n : Nat) (s : State) (H : Heap) (locs : List Loc) : Prop := va_P (gD E) vwCl (cwd E f n) H ∧ va_S (Fr E) s.heap H locs
def Wc (E : GE) (f : Nat → va_E) (n : Nat) (U : State) : Prop := va_P (gD E) vwCl (cwd E f n) U.heap ∧ U.heap.size = gB E + n ∧ Gf E U ∧ va_AO "PaneStreet$Term" U ∧ va_AO "PaneStreet$Street" U
def We' (E : GE) (f : Nat → va_E) (n : Nat) (t : State) : Prop := va_P (gD E) vwCl (cwd E f n) t.heap
/-- cells k .. k+m-1 are as they are at first -/
def fi (E : GE) (k m : Nat) (f : Nat → va_E) : Nat → va_E := fun j => if k ≤ j ∧ j < k + m then cellOf E z0 j else f j
/-- the object at k is as told, those behind it up to q are as they are at first -/
def NF (E : GE) (k q : Nat) (e : va_E) (f : Nat → va_E) : Nat → va_E := fun j => if j = k then e else if k < j ∧ j < q then cellOf E z0 j else f j
theorem NF_put {E : GE} {k q : Nat} {e e' : va_E} {f : Nat → va_E} : va_up (NF E k q e f) k e' = NF E k q e' f := by
  funext j
  unfold va_up NF
  split <;> rfl
theorem NF_at {E : GE} {k q : Nat} {e : va_E} {f : Nat → va_E} : NF E k q e f k = e := if_pos rfl
theorem NF_fi {E : GE} {k q m : Nat} {e b : va_E} {f : Nat → va_E} (h : k < q) (hm : 0 < m) : fi E q m (va_up (NF E k q e f) q b) = NF E k (q + m) e f := by
  funext j
  unfold fi NF va_up
  by_cases h1 : q ≤ j ∧ j < q + m
  · rw [if_pos h1, if_neg (by omega), if_pos (by omega)]
  · rw [if_neg h1]
    by_cases h2 : j = q
    · exact absurd (show q ≤ j ∧ j < q + m by omega) h1
    · rw [if_neg h2]
      dsimp only
      by_cases h3 : j = k
      · rw [if_pos h3, if_pos h3]
      · rw [if_neg h3, if_neg h3]
        by_cases h4 : k < j ∧ j < q
        · rw [if_pos h4, if_pos (by omega)]
        · rw [if_neg h4, if_neg (by omega)]
theorem NF_one {E : GE} {k q : Nat} {e b : va_E} {f : Nat → va_E} (h : k < q) (hb : b = cellOf E z0 q) : va_up (NF E k q e f) q b = NF E k (q + 1) e f := by
  rw [← NF_fi (b := b) (m := 1) h (by omega)]
  funext j
  unfold va_up fi
  by_cases h1 : j = q
  · subst h1; rw [if_pos rfl, if_pos (by omega), hb]
  · rw [if_neg h1, if_neg (by omega)]; dsimp only; rw [if_neg h1]
theorem NF_end {E : GE} {k m : Nat} {e : va_E} {f : Nat → va_E} (h : e = cellOf E z0 k) (hm : 0 < m) : NF E k (k + m) e f = fi E k m f := by
  funext j
  unfold NF fi
  by_cases h1 : j = k
  · subst h1; rw [if_pos rfl, if_pos (by omega), h]
  · rw [if_neg h1]
    by_cases h2 : k < j ∧ j < k + m
    · rw [if_pos h2, if_pos (by omega)]
    · rw [if_neg h2, if_neg (by omega)]
theorem NF_0 {E : GE} {k : Nat} {e : va_E} {f : Nat → va_E} (h : f k = e) : f = NF E k (k + 1) e f := by
  funext j
  unfold NF
  by_cases h1 : j = k
  · subst h1; rw [if_pos rfl, h]
  · rw [if_neg h1, if_neg (by omega)]
theorem co_z {E : GE} {k : Nat} (t : Nat) (h : kd k = t) : cellOf E z0 k = cell0 E k (zr t) t := by rw [cellOf, z0, h]
section CONS
variable {p : Program} {l : Launch} {e : Env} {R : Room} {s : State} {m : MethodId} {args : Array Value} {below : List Frame} {meth : Method} {c : Code} {H : Heap} {locs : List Loc} {cells slots : Nat} {Q : State → Prop}
variable {cc : ByteArray} {nL pc : Nat} {ls : Array Slot} {rest st0 As : List Value} {E : GE} {f f' : Nat → va_E} {n n' n0 : Nat} {own host : String} {ret : Option FieldType}
theorem W.szc {g : JFrame} (kk : H.size ≤ s.heap.size + cells → W p l e R s m args below meth c H locs cells slots Q g) : W p l e R s m args below meth c H locs cells slots Q g := fun T hT X => kk (by rw [← hT]; exact X.heapSize) T hT X
theorem Hc.lo (X : Hc E f n s H locs) (hn : 0 < n) : gB E + n ≤ H.size := by
  have := (cwd_P.mp X.1 (n - 1) (by omega)).lt
  have h2 : gB E + (n - 1) < H.size := this
  omega
theorem Hc.sz (X : Hc E f n s H locs) (hn : 0 < n) (h0 : s.heap.size = gB E + n0) (hc : n = n0 + cells) (hu : H.size ≤ s.heap.size + cells) : H.size = gB E + n := by
  have := X.lo hn
  omega
theorem cnew (C : Cx p s m args meth c cc ret nL own) (G : Gf E s) (X : Hc E f n s H locs) (h0 : s.heap.size = gB E + n0) (hn : 0 < n) (hc0 : n = n0 + cells) {Cn : String} {T : u_T} {N ci index : Nat} (hin : ∀ w ∈ u_ws Cn T N, w ∈ WU) (ty : Nat → FieldType) (hty : ∀ k, k < N → parseFieldDescriptor (T k).2.2.1 = some (ty k)) (hcl : Cond.classLink own index Cn ∈ WU) (hinst : Cond.instantiable Cn N ∈ WU) (hini : Cond.initialized Cn ∈ WU) (hc : vwCl[ci]? = some (Cn, T, N)) {fs : List Value} (hfs : ∀ j, j < N → defaultValue (ty j) = vp_V fs j) (hcells : cells + 1 ≤ R.cells) (hslots : slots + N ≤ R.slots) (d : decode cc pc = .ok (.new index, 3))
    (kk : ∀ H1 : Heap, Hc E (va_up f n (.inr (ci, fs))) (n + 1) s H1 locs → W p l e R s m args below meth c H1 locs (cells + 1) (slots + N) Q (F0 m (pc + 3) ls (.ref (gB E + n) :: rest))) : W p l e R s m args below meth c H locs cells slots Q (F0 m pc ls rest) := by
  refine W.szc fun hu => ?_
  have hz := X.sz hn h0 hc0 hu
  have hKn := G.K.1 ci _ hc
  refine W.newcK C.1 C.2.1 C.hown (C.ts _ hcl) (C.ts _ hinst) (C.ts _ hini) rfl d hcells hslots hKn.2.1 hz fun H1 kC hkC e1 z1 o1 => kk H1 ⟨cwd_P.mpr fun k hk => ?_, Nat.le_trans X.2.1 (by omega), fun x h1 h2 => (o1 x (by have := X.2.1; omega)).trans (X.2.2.1 x h1 h2), X.2.2.2⟩
  by_cases hkn : k = n
  · subst hkn
    rw [va_up, if_pos rfl]
    exact ⟨_, hc, (u_born ty C.ts hin hKn hkC e1 hty).to hfs⟩
  · rw [va_up, if_neg hkn]
    exact (cwd_P.mp X.1 k (by omega)).kept (o1 _ (by show gB E + k < gB E + n; omega))
theorem cnewI (C : Cx p s m args meth c cc ret nL own) (G : Gf E s) (X : Hc E f n s H locs) (h0 : s.heap.size = gB E + n0) (hn : 0 < n) (hc0 : n = n0 + cells) (harr : Cond.arrayClass .int ∈ WU) {x : Int32} {N : Nat} (hx : x = nI N) (hN : N < 100000) (hcells : cells + 1 ≤ R.cells) (hslots : slots + N ≤ R.slots) (d : decode cc pc = .ok (.newarray .int, 2))
    (kk : ∀ H1 : Heap, Hc E (va_up f n (.inl (gT E 0, N, .inl (fun _ => 0)))) (n + 1) s H1 locs → W p l e R s m args below meth c H1 locs (cells + 1) (slots + N) Q (F0 m (pc + 2) ls (.ref (gB E + n) :: rest))) : W p l e R s m args below meth c H locs cells slots Q (F0 m pc ls (.int x :: rest)) := by
  refine W.szc fun hu => ?_
  have hz := X.sz hn h0 hc0 hu
  have hT : s.vm.findClass ("[" ++ FieldType.int.toString) = some (gT E 0) := (G.K.2 0 _ rfl).2
  refine va_newaK C.1 C.2.1 (atype := .int) (C.ts _ harr) rfl d rfl (by rw [hx]; exact nI_pos (by omega)) (by rw [hx]; exact nI_clamp (by omega)) (by show N * 4 ≤ 536870912; omega) hcells hslots hz fun H1 cA e1 z1 o1 hAr hNm => kk H1 ⟨cwd_P.mpr fun k hk => ?_, Nat.le_trans X.2.1 (by omega), fun x h1 h2 => (o1 x (by have := X.2.1; omega)).trans (X.2.2.1 x h1 h2), X.2.2.2⟩
  by_cases hkn : k = n
  · subst hkn
    rw [va_up, if_pos rfl]
    have hA : cA = gT E 0 := Option.some.inj (hNm.symm.trans hT)
    subst hA
    exact e1
  · rw [va_up, if_neg hkn]
    exact (cwd_P.mp X.1 k (by omega)).kept (o1 _ (by show gB E + k < gB E + n; omega))
theorem cnewL (C : Cx p s m args meth c cc ret nL own) (G : Gf E s) (X : Hc E f n s H locs) (h0 : s.heap.size = gB E + n0) (hn : 0 < n) (hc0 : n = n0 + cells) (harr : Cond.arrayClass .long ∈ WU) {x : Int32} {N : Nat} (hx : x = nI N) (hN : N < 100000) (hcells : cells + 1 ≤ R.cells) (hslots : slots + N ≤ R.slots) (d : decode cc pc = .ok (.newarray .long, 2))
    (kk : ∀ H1 : Heap, Hc E (va_up f n (.inl (gT E 3, N, .inr (.inl (fun _ => 0))))) (n + 1) s H1 locs → W p l e R s m args below meth c H1 locs (cells + 1) (slots + N) Q (F0 m (pc + 2) ls (.ref (gB E + n) :: rest))) : W p l e R s m args below meth c H locs cells slots Q (F0 m pc ls (.int x :: rest)) := by
  refine W.szc fun hu => ?_
  have hz := X.sz hn h0 hc0 hu
  have hT : s.vm.findClass ("[" ++ FieldType.long.toString) = some (gT E 3) := (G.K.2 3 _ rfl).2
  refine va_newaK C.1 C.2.1 (atype := .long) (C.ts _ harr) rfl d rfl (by rw [hx]; exact nI_pos (by omega)) (by rw [hx]; exact nI_clamp (by omega)) (by show N * 8 ≤ 536870912; omega) hcells hslots hz fun H1 cA e1 z1 o1 hAr hNm => kk H1 ⟨cwd_P.mpr fun k hk => ?_, Nat.le_trans X.2.1 (by omega), fun x h1 h2 => (o1 x (by have := X.2.1; omega)).trans (X.2.2.1 x h1 h2), X.2.2.2⟩
  by_cases hkn : k = n
  · subst hkn
    rw [va_up, if_pos rfl]
    have hA : cA = gT E 3 := Option.some.inj (hNm.symm.trans hT)
    subst hA
    exact e1
  · rw [va_up, if_neg hkn]
    exact (cwd_P.mp X.1 k (by omega)).kept (o1 _ (by show gB E + k < gB E + n; omega))
theorem cnewQ (C : Cx p s m args meth c cc ret nL own) (G : Gf E s) (X : Hc E f n s H locs) (h0 : s.heap.size = gB E + n0) (hn : 0 < n) (hc0 : n = n0 + cells) {Cn : String} {t index : Nat} (hT : (gTy E)[t]? = some (gT E t, .object Cn)) (hcl : Cond.classLink own index Cn ∈ WU) (hAO : va_AO Cn s) {x : Int32} {N : Nat} (hx : x = nI N) (hN : N < 100000) (hcells : cells + 1 ≤ R.cells) (hslots : slots + N ≤ R.slots) (d : decode cc pc = .ok (.anewarray index, 3))
    (kk : ∀ H1 : Heap, Hc E (va_up f n (.inl (gT E t, N, .inr (.inr (.inr (.inr (fun _ => none))))))) (n + 1) s H1 locs → W p l e R s m args below meth c H1 locs (cells + 1) (slots + N) Q (F0 m (pc + 3) ls (.ref (gB E + n) :: rest))) : W p l e R s m args below meth c H locs cells slots Q (F0 m pc ls (.int x :: rest)) := by
  refine W.szc fun hu => ?_
  have hz := X.sz hn h0 hc0 hu
  have hNm : x.toNatClampNeg = N := by rw [hx]; exact nI_clamp (by omega)
  subst hNm
  obtain ⟨kA0, comp0, g1, g2, g3, g4⟩ := (G.K.2 t _ hT).2
  refine W.anew C.1 C.2.1 C.hown (C.ts _ hcl) (va_AO.use hAO) rfl d rfl (by rw [hx]; exact nI_pos (by omega)) (by omega) hcells hslots fun cA kA comp f1 f2 f3 f4 => ?_
  generalize hH1 : H.push ({ cls := cA, slots := Array.replicate x.toNatClampNeg .null, vm := .none } : Cell) = H1
  have z1 : H1.size = H.size + 1 := by rw [← hH1, Array.size_push]
  have e1 : H1[H.size]? = some (arrV cA x.toNatClampNeg (fun _ => .null)) := by rw [← hH1, Array.getElem?_push_size, ← arrV_new]
  have o1 : ∀ q : Nat, q < H.size → H1[q]? = H[q]? := fun q hq => by rw [← hH1, Array.getElem?_push, if_neg (Nat.ne_of_lt hq)]
  rw [hz] at e1 o1 z1 ⊢
  refine kk H1 ⟨cwd_P.mpr fun k hk => ?_, Nat.le_trans X.2.1 (by omega), fun x h1 h2 => (o1 x (by have := X.2.1; omega)).trans (X.2.2.1 x h1 h2), X.2.2.2⟩
  by_cases hkn : k = n
  · subst hkn
    rw [va_up, if_pos rfl]
    have hA : cA = gT E t := Option.some.inj (f1.symm.trans g4)
    subst hA
    exact e1
  · rw [va_up, if_neg hkn]
    exact (cwd_P.mp X.1 k (by omega)).kept (o1 _ (by show gB E + k < gB E + n; omega))
theorem cobj (C : Cx p s m args meth c cc ret nL own) (hls : ls.size = nL) {a : Addr} {idx : Nat} (hl : Cond.methodLink own idx objectInit ∈ WU) (hi : Cond.instanceMethod objectInit ∈ WU) (hc : Cond.code objectInit ⟨#[0xb1]⟩ 1 none ∈ WU) (d : decode cc pc = .ok (.invokespecial idx, 3)) (hf : 1 ≤ R.frames) (hR : (rest.map fun v => v.category).sum + 12 ≤ R.locals)
    (kk : W p l e R s m args below meth c H locs cells slots Q (F0 m (pc + 3) ls rest)) : W p l e R s m args below meth c H locs cells slots Q (F0 m pc ls (.ref a :: rest)) :=
  W.objInit C.1 C.2.1 C.hown (C.ts _ hl) (C.ts _ hi) (C.ts _ hc) rfl (hls.trans C.ml.symm) rfl d hf (by show 2 * 0 + _ + 12 ≤ _; omega) kk
def RC (h mc ms : Nat) : Room := { frames := h, cells := mc, slots := ms, locals := 48 * h }
def CtN (l : Launch) (E : GE) (y : MethodName) (cc : ByteArray) (nL : Nat) (h mc ms : Nat) (As : List Value) (f : Nat → va_E) (n : Nat) (f' : Nat → va_E) (n' : Nat) : Prop :=
  Met l y (.code y cc nL none :: WU) (RC h mc ms) (va_Pc As (Wc E f n)) (va_Qv (fun (_ : Unit) => True) (fun _ t => We' E f' n' t) (Fr E)) mc ms (Fr E)
theorem Wc.blind : FrameBlind (va_Pc As (Wc E f n)) := fun a U g mk q => ⟨q.1, q.2.1, q.2.2.1, q.2.2.2.1.same rfl rfl, va_AO.moved (U := U.calling g mk a) (Vm.Alike.refl U.vm) q.2.2.2.2.1, va_AO.moved (U := U.calling g mk a) (Vm.Alike.refl U.vm) q.2.2.2.2.2⟩
theorem preC (G : Gf E s) (hA : va_AO "PaneStreet$Term" s) (hB : va_AO "PaneStreet$Street" s) (X : Hc E f n s H locs) (hz : H.size = gB E + n) : PreS s H (va_Pc As (Wc E f n)) As :=
  ⟨Wc.blind, fun U hU hW => ⟨rfl, by rw [hU]; exact X.1, by rw [hU]; exact hz, G.warm hW (fun a h1 h2 => by rw [hU]; exact X.2.2.1 a h1 h2), va_AO.moved hW.alike hA, va_AO.moved hW.alike hB⟩⟩
theorem ccall {y : MethodName} {b2 : ByteArray} {n2 na h2 mc ms index : Nat} {b : Addr} (C : Cx p s m args meth c cc ret nL own) (G : Gf E s) (hA : va_AO "PaneStreet$Term" s) (hB : va_AO "PaneStreet$Street" s) (X : Hc E f n s H locs) (h0 : s.heap.size = gB E + n0) (hn : 0 < n) (hc0 : n = n0 + cells) (q : CQ y b2 n2 none na) (hy : y.name = "<init>") (hin : Cond.instanceMethod y ∈ WU) (hl : Cond.methodLink own index y ∈ WU) (hM : CtN l E y b2 n2 h2 mc ms (.ref b :: As) f n f' n')
    (hna : As.length = na) (hls : ls.size = nL) (hst : st0 = As.reverse ++ .ref b :: rest) (hW : (rest.map fun v => v.category).sum ≤ 8) (hR : h2 + 1 ≤ R.frames ∧ 19 + n2 + 48 * h2 ≤ R.locals) (hc : cells + mc ≤ R.cells ∧ slots + ms ≤ R.slots) (d : decode cc pc = .ok (.invokespecial index, 3))
    (kk : ∀ (H1 : Heap) (locs1 : List Loc), Hc E f' n' s H1 locs1 → W p l e R s m args below meth c H1 locs1 (cells + mc) (slots + ms) Q (F0 m (pc + 3) ls rest)) : W p l e R s m args below meth c H locs cells slots Q (F0 m pc ls st0) := by
  refine W.szc fun hu => ?_
  have hz := X.sz hn h0 hc0 hu
  refine va_callv (va_runI C.fix hM ⟨cq_B C.ts q hl rfl rfl ⟨hR.1, by show 8 + (n2 + 11) + 48 * h2 ≤ R.locals; omega⟩, hy, C.ts _ hin⟩ (preC G hA hB X hz) rfl hna hls hst (lv_room hW) d hc) X.2 (fun _ _ h => h) (fun _ h => h) (fun u t H1 locs1 ht _ _ hb _ _ hS => kk H1 locs1 ⟨by rw [← ht]; exact hb, hS⟩)
theorem ccallN {y : MethodName} {b2 : ByteArray} {n2 na h2 mc ms index : Nat} {b : Addr} (C : Cx p s m args meth c cc ret nL own) (G : Gf E s) (hA : va_AO "PaneStreet$Term" s) (hB : va_AO "PaneStreet$Street" s) (X : Hc E f n s H locs) (h0 : s.heap.size = gB E + n0) (hn : 0 < n) (hc0 : n = n0 + cells) (q : CQ y b2 n2 none na) (hy : y.name = "<init>") (hin : Cond.instanceMethod y ∈ WU) (hl : Cond.methodLinkNest own index y host ∈ nstL) (hM : CtN l E y b2 n2 h2 mc ms (.ref b :: As) f n f' n')
    (hna : As.length = na) (hls : ls.size = nL) (hst : st0 = As.reverse ++ .ref b :: rest) (hW : (rest.map fun v => v.category).sum ≤ 8) (hR : h2 + 1 ≤ R.frames ∧ 19 + n2 + 48 * h2 ≤ R.locals) (hc : cells + mc ≤ R.cells ∧ slots + ms ≤ R.slots) (d : decode cc pc = .ok (.invokespecial index, 3))
    (kk : ∀ (H1 : Heap) (locs1 : List Loc), Hc E f' n' s H1 locs1 → W p l e R s m args below meth c H1 locs1 (cells + mc) (slots + ms) Q (F0 m (pc + 3) ls rest)) : W p l e R s m args below meth c H locs cells slots Q (F0 m pc ls st0) := by
  refine W.szc fun hu => ?_
  have hz := X.sz hn h0 hc0 hu
  refine va_callv (va_runIN C.fix hM ⟨cq_N C.ts q (G.2.1.1 _ hl) rfl rfl ⟨hR.1, by show 8 + (n2 + 11) + 48 * h2 ≤ R.locals; omega⟩, hy, C.ts _ hin⟩ (preC G hA hB X hz) rfl hna hls hst (lv_room hW) d hc) X.2 (fun _ _ h => h) (fun _ h => h) (fun u t H1 locs1 ht _ _ hb _ _ hS => kk H1 locs1 ⟨by rw [← ht]; exact hb, hS⟩)
theorem rtN {mc ms : Nat} (C : Cx p s m args meth c cc none nL own) (X : Hc E f n s H locs) (hc : cells = mc) (hs : slots = ms) (hf : f = f') (hn : n = n') (d : decode cc pc = .ok (.return_, 1)) : W p l e R s m args below meth c H locs cells slots (MQ below (va_Qv (fun (_ : Unit) => True) (fun _ t => We' E f' n' t) (Fr E)) args s mc ms (Fr E)) (F0 m pc ls []) := by
  subst hc; subst hs; subst hf; subst hn
  exact W.vret C.1 C.2.1 C.2.2.1 (fun t ht _ => ⟨⟨(), rfl, trivial, by show va_P (gD E) vwCl (cwd E f n) t.heap; rw [ht]; exact X.1⟩, X.2.F ht⟩) X.2.2.2 d C.lk
theorem startC (hv : va_Pc As (Wc E f n) args s) : args = As.toArray ∧ Gf E s ∧ va_AO "PaneStreet$Term" s ∧ va_AO "PaneStreet$Street" s ∧ s.heap.size = gB E + n ∧ Hc E f n s s.heap [] := ⟨hv.1, hv.2.2.2.1, hv.2.2.2.2.1, hv.2.2.2.2.2, hv.2.2.1, hv.2.1, va_S.rf⟩
theorem cfX6 (C : Cx p s m args meth c cc ret nL own) (G : Gf E s) (X : Hc E f n s H locs) {k : Nat} (hk : k < n) (i : Nat) {v : Value} {ty : FieldType} {fs : List Value} {index : Nat} (he : f k = .inr (5, fs)) (hlen : i < fs.length) (hi : i < 1) (hl : Cond.fieldLink own index RX6 (TX6 i).2.1 (TX6 i).2.2.1 ∈ WU) (hs : (TX6 i).1 = RX6) (hf : (TX6 i).2.2.2 = true) (hin2 : meth.name = "<init>") (hdc : (TX6 i).1 = own) (hd : parseFieldDescriptor (TX6 i).2.2.1 = some ty) (hn : narrow ty v = v) (hfit : fits ty v = true) (d : decode cc pc = .ok (.putfield index, 3)) (kk : ∀ (H1 : Heap) (locs1 : List Loc), Hc E (va_up f k (.inr (5, fs.set i v))) n s H1 locs1 → W p l e R s m args below meth c H1 locs1 cells slots Q (F0 m (pc + 3) ls rest)) : W p l e R s m args below meth c H locs cells slots Q (F0 m pc ls (v :: .ref (gB E + k) :: rest)) :=
  va_putF C.1 C.2.1 C.ts inX6 tyX6 tyX6_ok nmX6 C.hown G.K X.1 cwdD X.2 k ((cwd_at hk).trans (by rw [he])) (show vwCl[5]? = some (RX6, TX6, 1) from rfl) i hi (C.ts _ hl) (fun x hx => by rw [hs] at hx; exact hx) hf hin2 hdc hd hn hfit hlen d (fun H1 locs1 h1 _ h3 => kk H1 locs1 ⟨by rw [cwd_set hk] at h1; exact h1, h3⟩)
theorem cfX7 (C : Cx p s m args meth c cc ret nL own) (G : Gf E s) (X : Hc E f n s H locs) {k : Nat} (hk : k < n) (i : Nat) {v : Value} {ty : FieldType} {fs : List Value} {index : Nat} (he : f k = .inr (6, fs)) (hlen : i < fs.length) (hi : i < 20) (hl : Cond.fieldLink own index RX7 (TX7 i).2.1 (TX7 i).2.2.1 ∈ WU) (hs : (TX7 i).1 = RX7) (hf : (TX7 i).2.2.2 = true) (hin2 : meth.name = "<init>") (hdc : (TX7 i).1 = own) (hd : parseFieldDescriptor (TX7 i).2.2.1 = some ty) (hn : narrow ty v = v) (hfit : fits ty v = true) (d : decode cc pc = .ok (.putfield index, 3)) (kk : ∀ (H1 : Heap) (locs1 : List Loc), Hc E (va_up f k (.inr (6, fs.set i v))) n s H1 locs1 → W p l e R s m args below meth c H1 locs1 cells slots Q (F0 m (pc + 3) ls rest)) : W p l e R s m args below meth c H locs cells slots Q (F0 m pc ls (v :: .ref (gB E + k) :: rest)) :=
  va_putF C.1 C.2.1 C.ts inX7 tyX7 tyX7_ok nmX7 C.hown G.K X.1 cwdD X.2 k ((cwd_at hk).trans (by rw [he])) (show vwCl[6]? = some (RX7, TX7, 20) from rfl) i hi (C.ts _ hl) (fun x hx => by rw [hs] at hx; exact hx) hf hin2 hdc hd hn hfit hlen d (fun H1 locs1 h1 _ h3 => kk H1 locs1 ⟨by rw [cwd_set hk] at h1; exact h1, h3⟩)
theorem cvX7 (C : Cx p s m args meth c cc ret nL own) (G : Gf E s) (X : Hc E f n s H locs) {k : Nat} (hk : k < n) (i : Nat) {v : Value} {ty : FieldType} {fs : List Value} {index : Nat} (he : f k = .inr (6, fs)) (hlen : i < fs.length) (hi : i < 20) (hl : Cond.fieldLink own index RX7 (TX7 i).2.1 (TX7 i).2.2.1 ∈ WU) (hs : (TX7 i).1 = RX7) (hf : (TX7 i).2.2.2 = false) (hd : parseFieldDescriptor (TX7 i).2.2.1 = some ty) (hn : narrow ty v = v) (hfit : fits ty v = true) (d : decode cc pc = .ok (.putfield index, 3)) (kk : ∀ (H1 : Heap) (locs1 : List Loc), Hc E (va_up f k (.inr (6, fs.set i v))) n s H1 locs1 → W p l e R s m args below meth c H1 locs1 cells slots Q (F0 m (pc + 3) ls rest)) : W p l e R s m args below meth c H locs cells slots Q (F0 m pc ls (v :: .ref (gB E + k) :: rest)) :=
  va_put C.1 C.2.1 C.ts inX7 tyX7 tyX7_ok nmX7 C.hown G.K X.1 cwdD X.2 k ((cwd_at hk).trans (by rw [he])) (show vwCl[6]? = some (RX7, TX7, 20) from rfl) i hi (C.ts _ hl) (fun x hx => by rw [hs] at hx; exact hx) hf hd hn hfit hlen d (fun H1 locs1 h1 _ h3 => kk H1 locs1 ⟨by rw [cwd_set hk] at h1; exact h1, h3⟩)
theorem cfX3 (C : Cx p s m args meth c cc ret nL own) (G : Gf E s) (X : Hc E f n s H locs) {k : Nat} (hk : k < n) (i : Nat) {v : Value} {ty : FieldType} {fs : List Value} {index : Nat} (he : f k = .inr (3, fs)) (hlen : i < fs.length) (hi : i < 8) (hl : Cond.fieldLink own index RX3 (TX3 i).2.1 (TX3 i).2.2.1 ∈ WU) (hs : (TX3 i).1 = RX3) (hf : (TX3 i).2.2.2 = true) (hin2 : meth.name = "<init>") (hdc : (TX3 i).1 = own) (hd : parseFieldDescriptor (TX3 i).2.2.1 = some ty) (hn : narrow ty v = v) (hfit : fits ty v = true) (d : decode cc pc = .ok (.putfield index, 3)) (kk : ∀ (H1 : Heap) (locs1 : List Loc), Hc E (va_up f k (.inr (3, fs.set i v))) n s H1 locs1 → W p l e R s m args below meth c H1 locs1 cells slots Q (F0 m (pc + 3) ls rest)) : W p l e R s m args below meth c H locs cells slots Q (F0 m pc ls (v :: .ref (gB E + k) :: rest)) :=
  va_putF C.1 C.2.1 C.ts inX3 tyX3 tyX3_ok nmX3 C.hown G.K X.1 cwdD X.2 k ((cwd_at hk).trans (by rw [he])) (show vwCl[3]? = some (RX3, TX3, 8) from rfl) i hi (C.ts _ hl) (fun x hx => by rw [hs] at hx; exact hx) hf hin2 hdc hd hn hfit hlen d (fun H1 locs1 h1 _ h3 => kk H1 locs1 ⟨by rw [cwd_set hk] at h1; exact h1, h3⟩)
theorem cvX3 (C : Cx p s m args meth c cc ret nL own) (G : Gf E s) (X : Hc E f n s H locs) {k : Nat} (hk : k < n) (i : Nat) {v : Value} {ty : FieldType} {fs : List Value} {index : Nat} (he : f k = .inr (3, fs)) (hlen : i < fs.length) (hi : i < 8) (hl : Cond.fieldLink own index RX3 (TX3 i).2.1 (TX3 i).2.2.1 ∈ WU) (hs : (TX3 i).1 = RX3) (hf : (TX3 i).2.2.2 = false) (hd : parseFieldDescriptor (TX3 i).2.2.1 = some ty) (hn : narrow ty v = v) (hfit : fits ty v = true) (d : decode cc pc = .ok (.putfield index, 3)) (kk : ∀ (H1 : Heap) (locs1 : List Loc), Hc E (va_up f k (.inr (3, fs.set i v))) n s H1 locs1 → W p l e R s m args below meth c H1 locs1 cells slots Q (F0 m (pc + 3) ls rest)) : W p l e R s m args below meth c H locs cells slots Q (F0 m pc ls (v :: .ref (gB E + k) :: rest)) :=
  va_put C.1 C.2.1 C.ts inX3 tyX3 tyX3_ok nmX3 C.hown G.K X.1 cwdD X.2 k ((cwd_at hk).trans (by rw [he])) (show vwCl[3]? = some (RX3, TX3, 8) from rfl) i hi (C.ts _ hl) (fun x hx => by rw [hs] at hx; exact hx) hf hd hn hfit hlen d (fun H1 locs1 h1 _ h3 => kk H1 locs1 ⟨by rw [cwd_set hk] at h1; exact h1, h3⟩)
theorem cfX10 (C : Cx p s m args meth c cc ret nL own) (G : Gf E s) (X : Hc E f n s H locs) {k : Nat} (hk : k < n) (i : Nat) {v : Value} {ty : FieldType} {fs : List Value} {index : Nat} (he : f k = .inr (7, fs)) (hlen : i < fs.length) (hi : i < 7) (hl : Cond.fieldLink own index RX10 (TX10 i).2.1 (TX10 i).2.2.1 ∈ WU) (hs : (TX10 i).1 = RX10) (hf : (TX10 i).2.2.2 = true) (hin2 : meth.name = "<init>") (hdc : (TX10 i).1 = own) (hd : parseFieldDescriptor (TX10 i).2.2.1 = some ty) (hn : narrow ty v = v) (hfit : fits ty v = true) (d : decode cc pc = .ok (.putfield index, 3)) (kk : ∀ (H1 : Heap) (locs1 : List Loc), Hc E (va_up f k (.inr (7, fs.set i v))) n s H1 locs1 → W p l e R s m args below meth c H1 locs1 cells slots Q (F0 m (pc + 3) ls rest)) : W p l e R s m args below meth c H locs cells slots Q (F0 m pc ls (v :: .ref (gB E + k) :: rest)) :=
  va_putF C.1 C.2.1 C.ts inX10 tyX10 tyX10_ok nmX10 C.hown G.K X.1 cwdD X.2 k ((cwd_at hk).trans (by rw [he])) (show vwCl[7]? = some (RX10, TX10, 7) from rfl) i hi (C.ts _ hl) (fun x hx => by rw [hs] at hx; exact hx) hf hin2 hdc hd hn hfit hlen d (fun H1 locs1 h1 _ h3 => kk H1 locs1 ⟨by rw [cwd_set hk] at h1; exact h1, h3⟩)
theorem cvX10 (C : Cx p s m args meth c cc ret nL own) (G : Gf E s) (X : Hc E f n s H locs) {k : Nat} (hk : k < n) (i : Nat) {v : Value} {ty : FieldType} {fs : List Value} {index : Nat} (he : f k = .inr (7, fs)) (hlen : i < fs.length) (hi : i < 7) (hl : Cond.fieldLink own index RX10 (TX10 i).2.1 (TX10 i).2.2.1 ∈ WU) (hs : (TX10 i).1 = RX10) (hf : (TX10 i).2.2.2 = false) (hd : parseFieldDescriptor (TX10 i).2.2.1 = some ty) (hn : narrow ty v = v) (hfit : fits ty v = true) (d : decode cc pc = .ok (.putfield index, 3)) (kk : ∀ (H1 : Heap) (locs1 : List Loc), Hc E (va_up f k (.inr (7, fs.set i v))) n s H1 locs1 → W p l e R s m args below meth c H1 locs1 cells slots Q (F0 m (pc + 3) ls rest)) : W p l e R s m args below meth c H locs cells slots Q (F0 m pc ls (v :: .ref (gB E + k) :: rest)) :=
  va_put C.1 C.2.1 C.ts inX10 tyX10 tyX10_ok nmX10 C.hown G.K X.1 cwdD X.2 k ((cwd_at hk).trans (by rw [he])) (show vwCl[7]? = some (RX10, TX10, 7) from rfl) i hi (C.ts _ hl) (fun x hx => by rw [hs] at hx; exact hx) hf hd hn hfit hlen d (fun H1 locs1 h1 _ h3 => kk H1 locs1 ⟨by rw [cwd_set hk] at h1; exact h1, h3⟩)
theorem cfX2 (C : Cx p s m args meth c cc ret nL own) (G : Gf E s) (X : Hc E f n s H locs) {k : Nat} (hk : k < n) (i : Nat) {v : Value} {ty : FieldType} {fs : List Value} {index : Nat} (he : f k = .inr (2, fs)) (hlen : i < fs.length) (hi : i < 3) (hl : Cond.fieldLink own index RX2 (TX2 i).2.1 (TX2 i).2.2.1 ∈ WU) (hs : (TX2 i).1 = RX2) (hf : (TX2 i).2.2.2 = true) (hin2 : meth.name = "<init>") (hdc : (TX2 i).1 = own) (hd : parseFieldDescriptor (TX2 i).2.2.1 = some ty) (hn : narrow ty v = v) (hfit : fits ty v = true) (d : decode cc pc = .ok (.putfield index, 3)) (kk : ∀ (H1 : Heap) (locs1 : List Loc), Hc E (va_up f k (.inr (2, fs.set i v))) n s H1 locs1 → W p l e R s m args below meth c H1 locs1 cells slots Q (F0 m (pc + 3) ls rest)) : W p l e R s m args below meth c H locs cells slots Q (F0 m pc ls (v :: .ref (gB E + k) :: rest)) :=
  va_putF C.1 C.2.1 C.ts inX2 tyX2 tyX2_ok nmX2 C.hown G.K X.1 cwdD X.2 k ((cwd_at hk).trans (by rw [he])) (show vwCl[2]? = some (RX2, TX2, 3) from rfl) i hi (C.ts _ hl) (fun x hx => by rw [hs] at hx; exact hx) hf hin2 hdc hd hn hfit hlen d (fun H1 locs1 h1 _ h3 => kk H1 locs1 ⟨by rw [cwd_set hk] at h1; exact h1, h3⟩)
theorem cvX2 (C : Cx p s m args meth c cc ret nL own) (G : Gf E s) (X : Hc E f n s H locs) {k : Nat} (hk : k < n) (i : Nat) {v : Value} {ty : FieldType} {fs : List Value} {index : Nat} (he : f k = .inr (2, fs)) (hlen : i < fs.length) (hi : i < 3) (hl : Cond.fieldLink own index RX2 (TX2 i).2.1 (TX2 i).2.2.1 ∈ WU) (hs : (TX2 i).1 = RX2) (hf : (TX2 i).2.2.2 = false) (hd : parseFieldDescriptor (TX2 i).2.2.1 = some ty) (hn : narrow ty v = v) (hfit : fits ty v = true) (d : decode cc pc = .ok (.putfield index, 3)) (kk : ∀ (H1 : Heap) (locs1 : List Loc), Hc E (va_up f k (.inr (2, fs.set i v))) n s H1 locs1 → W p l e R s m args below meth c H1 locs1 cells slots Q (F0 m (pc + 3) ls rest)) : W p l e R s m args below meth c H locs cells slots Q (F0 m pc ls (v :: .ref (gB E + k) :: rest)) :=
  va_put C.1 C.2.1 C.ts inX2 tyX2 tyX2_ok nmX2 C.hown G.K X.1 cwdD X.2 k ((cwd_at hk).trans (by rw [he])) (show vwCl[2]? = some (RX2, TX2, 3) from rfl) i hi (C.ts _ hl) (fun x hx => by rw [hs] at hx; exact hx) hf hd hn hfit hlen d (fun H1 locs1 h1 _ h3 => kk H1 locs1 ⟨by rw [cwd_set hk] at h1; exact h1, h3⟩)
theorem cfX0 (C : Cx p s m args meth c cc ret nL own) (G : Gf E s) (X : Hc E f n s H locs) {k : Nat} (hk : k < n) (i : Nat) {v : Value} {ty : FieldType} {fs : List Value} {index : Nat} (he : f k = .inr (0, fs)) (hlen : i < fs.length) (hi : i < 1) (hl : Cond.fieldLink own index RX0 (TX0 i).2.1 (TX0 i).2.2.1 ∈ WU) (hs : (TX0 i).1 = RX0) (hf : (TX0 i).2.2.2 = true) (hin2 : meth.name = "<init>") (hdc : (TX0 i).1 = own) (hd : parseFieldDescriptor (TX0 i).2.2.1 = some ty) (hn : narrow ty v = v) (hfit : fits ty v = true) (d : decode cc pc = .ok (.putfield index, 3)) (kk : ∀ (H1 : Heap) (locs1 : List Loc), Hc E (va_up f k (.inr (0, fs.set i v))) n s H1 locs1 → W p l e R s m args below meth c H1 locs1 cells slots Q (F0 m (pc + 3) ls rest)) : W p l e R s m args below meth c H locs cells slots Q (F0 m pc ls (v :: .ref (gB E + k) :: rest)) :=
  va_putF C.1 C.2.1 C.ts inX0 tyX0 tyX0_ok nmX0 C.hown G.K X.1 cwdD X.2 k ((cwd_at hk).trans (by rw [he])) (show vwCl[0]? = some (RX0, TX0, 1) from rfl) i hi (C.ts _ hl) (fun x hx => by rw [hs] at hx; exact hx) hf hin2 hdc hd hn hfit hlen d (fun H1 locs1 h1 _ h3 => kk H1 locs1 ⟨by rw [cwd_set hk] at h1; exact h1, h3⟩)
theorem cfX5 (C : Cx p s m args meth c cc ret nL own) (G : Gf E s) (X : Hc E f n s H locs) {k : Nat} (hk : k < n) (i : Nat) {v : Value} {ty : FieldType} {fs : List Value} {index : Nat} (he : f k = .inr (4, fs)) (hlen : i < fs.length) (hi : i < 4) (hl : Cond.fieldLink own index RX5 (TX5 i).2.1 (TX5 i).2.2.1 ∈ WU) (hs : (TX5 i).1 = RX5) (hf : (TX5 i).2.2.2 = true) (hin2 : meth.name = "<init>") (hdc : (TX5 i).1 = own) (hd : parseFieldDescriptor (TX5 i).2.2.1 = some ty) (hn : narrow ty v = v) (hfit : fits ty v = true) (d : decode cc pc = .ok (.putfield index, 3)) (kk : ∀ (H1 : Heap) (locs1 : List Loc), Hc E (va_up f k (.inr (4, fs.set i v))) n s H1 locs1 → W p l e R s m args below meth c H1 locs1 cells slots Q (F0 m (pc + 3) ls rest)) : W p l e R s m args below meth c H locs cells slots Q (F0 m pc ls (v :: .ref (gB E + k) :: rest)) :=
  va_putF C.1 C.2.1 C.ts inX5 tyX5 tyX5_ok nmX5 C.hown G.K X.1 cwdD X.2 k ((cwd_at hk).trans (by rw [he])) (show vwCl[4]? = some (RX5, TX5, 4) from rfl) i hi (C.ts _ hl) (fun x hx => by rw [hs] at hx; exact hx) hf hin2 hdc hd hn hfit hlen d (fun H1 locs1 h1 _ h3 => kk H1 locs1 ⟨by rw [cwd_set hk] at h1; exact h1, h3⟩)
theorem cfX1 (C : Cx p s m args meth c cc ret nL own) (G : Gf E s) (X : Hc E f n s H locs) {k : Nat} (hk : k < n) (i : Nat) {v : Value} {ty : FieldType} {fs : List Value} {index : Nat} (he : f k = .inr (1, fs)) (hlen : i < fs.length) (hi : i < 1) (hl : Cond.fieldLink own index RX1 (TX1 i).2.1 (TX1 i).2.2.1 ∈ WU) (hs : (TX1 i).1 = RX1) (hf : (TX1 i).2.2.2 = true) (hin2 : meth.name = "<init>") (hdc : (TX1 i).1 = own) (hd : parseFieldDescriptor (TX1 i).2.2.1 = some ty) (hn : narrow ty v = v) (hfit : fits ty v = true) (d : decode cc pc = .ok (.putfield index, 3)) (kk : ∀ (H1 : Heap) (locs1 : List Loc), Hc E (va_up f k (.inr (1, fs.set i v))) n s H1 locs1 → W p l e R s m args below meth c H1 locs1 cells slots Q (F0 m (pc + 3) ls rest)) : W p l e R s m args below meth c H locs cells slots Q (F0 m pc ls (v :: .ref (gB E + k) :: rest)) :=
  va_putF C.1 C.2.1 C.ts inX1 tyX1 tyX1_ok nmX1 C.hown G.K X.1 cwdD X.2 k ((cwd_at hk).trans (by rw [he])) (show vwCl[1]? = some (RX1, TX1, 1) from rfl) i hi (C.ts _ hl) (fun x hx => by rw [hs] at hx; exact hx) hf hin2 hdc hd hn hfit hlen d (fun H1 locs1 h1 _ h3 => kk H1 locs1 ⟨by rw [cwd_set hk] at h1; exact h1, h3⟩)
theorem cfX11 (C : Cx p s m args meth c cc ret nL own) (G : Gf E s) (X : Hc E f n s H locs) {k : Nat} (hk : k < n) (i : Nat) {v : Value} {ty : FieldType} {fs : List Value} {index : Nat} (he : f k = .inr (8, fs)) (hlen : i < fs.length) (hi : i < 12) (hl : Cond.fieldLink own index RX11 (TX11 i).2.1 (TX11 i).2.2.1 ∈ WU) (hs : (TX11 i).1 = RX11) (hf : (TX11 i).2.2.2 = true) (hin2 : meth.name = "<init>") (hdc : (TX11 i).1 = own) (hd : parseFieldDescriptor (TX11 i).2.2.1 = some ty) (hn : narrow ty v = v) (hfit : fits ty v = true) (d : decode cc pc = .ok (.putfield index, 3)) (kk : ∀ (H1 : Heap) (locs1 : List Loc), Hc E (va_up f k (.inr (8, fs.set i v))) n s H1 locs1 → W p l e R s m args below meth c H1 locs1 cells slots Q (F0 m (pc + 3) ls rest)) : W p l e R s m args below meth c H locs cells slots Q (F0 m pc ls (v :: .ref (gB E + k) :: rest)) :=
  va_putF C.1 C.2.1 C.ts inX11 tyX11 tyX11_ok nmX11 C.hown G.K X.1 cwdD X.2 k ((cwd_at hk).trans (by rw [he])) (show vwCl[8]? = some (RX11, TX11, 12) from rfl) i hi (C.ts _ hl) (fun x hx => by rw [hs] at hx; exact hx) hf hin2 hdc hd hn hfit hlen d (fun H1 locs1 h1 _ h3 => kk H1 locs1 ⟨by rw [cwd_set hk] at h1; exact h1, h3⟩)
theorem cvX11 (C : Cx p s m args meth c cc ret nL own) (G : Gf E s) (X : Hc E f n s H locs) {k : Nat} (hk : k < n) (i : Nat) {v : Value} {ty : FieldType} {fs : List Value} {index : Nat} (he : f k = .inr (8, fs)) (hlen : i < fs.length) (hi : i < 12) (hl : Cond.fieldLink own index RX11 (TX11 i).2.1 (TX11 i).2.2.1 ∈ WU) (hs : (TX11 i).1 = RX11) (hf : (TX11 i).2.2.2 = false) (hd : parseFieldDescriptor (TX11 i).2.2.1 = some ty) (hn : narrow ty v = v) (hfit : fits ty v = true) (d : decode cc pc = .ok (.putfield index, 3)) (kk : ∀ (H1 : Heap) (locs1 : List Loc), Hc E (va_up f k (.inr (8, fs.set i v))) n s H1 locs1 → W p l e R s m args below meth c H1 locs1 cells slots Q (F0 m (pc + 3) ls rest)) : W p l e R s m args below meth c H locs cells slots Q (F0 m pc ls (v :: .ref (gB E + k) :: rest)) :=
  va_put C.1 C.2.1 C.ts inX11 tyX11 tyX11_ok nmX11 C.hown G.K X.1 cwdD X.2 k ((cwd_at hk).trans (by rw [he])) (show vwCl[8]? = some (RX11, TX11, 12) from rfl) i hi (C.ts _ hl) (fun x hx => by rw [hs] at hx; exact hx) hf hd hn hfit hlen d (fun H1 locs1 h1 _ h3 => kk H1 locs1 ⟨by rw [cwd_set hk] at h1; exact h1, h3⟩)
theorem cfX12 (C : Cx p s m args meth c cc ret nL own) (G : Gf E s) (X : Hc E f n s H locs) {k : Nat} (hk : k < n) (i : Nat) {v : Value} {ty : FieldType} {fs : List Value} {index : Nat} (he : f k = .inr (9, fs)) (hlen : i < fs.length) (hi : i < 23) (hl : Cond.fieldLink own index RX12 (TX12 i).2.1 (TX12 i).2.2.1 ∈ WU) (hs : (TX12 i).1 = RX12) (hf : (TX12 i).2.2.2 = true) (hin2 : meth.name = "<init>") (hdc : (TX12 i).1 = own) (hd : parseFieldDescriptor (TX12 i).2.2.1 = some ty) (hn : narrow ty v = v) (hfit : fits ty v = true) (d : decode cc pc = .ok (.putfield index, 3)) (kk : ∀ (H1 : Heap) (locs1 : List Loc), Hc E (va_up f k (.inr (9, fs.set i v))) n s H1 locs1 → W p l e R s m args below meth c H1 locs1 cells slots Q (F0 m (pc + 3) ls rest)) : W p l e R s m args below meth c H locs cells slots Q (F0 m pc ls (v :: .ref (gB E + k) :: rest)) :=
  va_putF C.1 C.2.1 C.ts inX12 tyX12 tyX12_ok nmX12 C.hown G.K X.1 cwdD X.2 k ((cwd_at hk).trans (by rw [he])) (show vwCl[9]? = some (RX12, TX12, 23) from rfl) i hi (C.ts _ hl) (fun x hx => by rw [hs] at hx; exact hx) hf hin2 hdc hd hn hfit hlen d (fun H1 locs1 h1 _ h3 => kk H1 locs1 ⟨by rw [cwd_set hk] at h1; exact h1, h3⟩)
theorem cvX12 (C : Cx p s m args meth c cc ret nL own) (G : Gf E s) (X : Hc E f n s H locs) {k : Nat} (hk : k < n) (i : Nat) {v : Value} {ty : FieldType} {fs : List Value} {index : Nat} (he : f k = .inr (9, fs)) (hlen : i < fs.length) (hi : i < 23) (hl : Cond.fieldLink own index RX12 (TX12 i).2.1 (TX12 i).2.2.1 ∈ WU) (hs : (TX12 i).1 = RX12) (hf : (TX12 i).2.2.2 = false) (hd : parseFieldDescriptor (TX12 i).2.2.1 = some ty) (hn : narrow ty v = v) (hfit : fits ty v = true) (d : decode cc pc = .ok (.putfield index, 3)) (kk : ∀ (H1 : Heap) (locs1 : List Loc), Hc E (va_up f k (.inr (9, fs.set i v))) n s H1 locs1 → W p l e R s m args below meth c H1 locs1 cells slots Q (F0 m (pc + 3) ls rest)) : W p l e R s m args below meth c H locs cells slots Q (F0 m pc ls (v :: .ref (gB E + k) :: rest)) :=
  va_put C.1 C.2.1 C.ts inX12 tyX12 tyX12_ok nmX12 C.hown G.K X.1 cwdD X.2 k ((cwd_at hk).trans (by rw [he])) (show vwCl[9]? = some (RX12, TX12, 23) from rfl) i hi (C.ts _ hl) (fun x hx => by rw [hs] at hx; exact hx) hf hd hn hfit hlen d (fun H1 locs1 h1 _ h3 => kk H1 locs1 ⟨by rw [cwd_set hk] at h1; exact h1, h3⟩)
theorem cgX2 (C : Cx p s m args meth c cc ret nL own) (G : Gf E s) (X : Hc E f n s H locs) {k : Nat} (hk : k < n) (i : Nat) {v : Value} {fs : List Value} {index : Nat} (he : f k = .inr (2, fs)) (hv : fs[i]? = some v) (hi : i < 3) (hl : Cond.fieldLink own index RX2 (TX2 i).2.1 (TX2 i).2.2.1 ∈ WU) (hs : (TX2 i).1 = RX2) (d : decode cc pc = .ok (.getfield index, 3)) (kk : W p l e R s m args below meth c H locs cells slots Q (F0 m (pc + 3) ls (v :: rest))) : W p l e R s m args below meth c H locs cells slots Q (F0 m pc ls (.ref (gB E + k) :: rest)) :=
  va_get C.1 C.2.1 C.ts inX2 C.hown G.K X.1 k ((cwd_at hk).trans (by rw [he])) (show vwCl[2]? = some (RX2, TX2, 3) from rfl) i hi (C.ts _ hl) (fun x hx => by rw [hs] at hx; exact hx) hv d kk
theorem cgX12 (C : Cx p s m args meth c cc ret nL own) (G : Gf E s) (X : Hc E f n s H locs) {k : Nat} (hk : k < n) (i : Nat) {v : Value} {fs : List Value} {index : Nat} (he : f k = .inr (9, fs)) (hv : fs[i]? = some v) (hi : i < 23) (hl : Cond.fieldLink own index RX12 (TX12 i).2.1 (TX12 i).2.2.1 ∈ WU) (hs : (TX12 i).1 = RX12) (d : decode cc pc = .ok (.getfield index, 3)) (kk : W p l e R s m args below meth c H locs cells slots Q (F0 m (pc + 3) ls (v :: rest))) : W p l e R s m args below meth c H locs cells slots Q (F0 m pc ls (.ref (gB E + k) :: rest)) :=
  va_get C.1 C.2.1 C.ts inX12 C.hown G.K X.1 k ((cwd_at hk).trans (by rw [he])) (show vwCl[9]? = some (RX12, TX12, 23) from rfl) i hi (C.ts _ hl) (fun x hx => by rw [hs] at hx; exact hx) hv d kk
theorem calenS (C : Cx p s m args meth c cc ret nL own) (G : Gf E s) (X : Hc E f n s H locs) {k N : Nat} (hk : k < n) {g : Nat → Option Nat} (he : f k = .inl (gT E 2, N, .inr (.inr (.inr (.inr g))))) (d : decode cc pc = .ok (.arraylength, 1)) (kk : W p l e R s m args below meth c H locs cells slots Q (F0 m (pc + 1) ls (.int (nI N) :: rest))) : W p l e R s m args below meth c H locs cells slots Q (F0 m pc ls (.ref (gB E + k) :: rest)) :=
  va_alen (v := nI N) C.1 C.2.1 G.K X.1 k 2 ((cwd_at hk).trans (by rw [he])) rfl rfl d kk
theorem castI (C : Cx p s m args meth c cc ret nL own) (G : Gf E s) (X : Hc E f n s H locs) {k : Nat} (hk : k < n) {N : Nat} {g : Nat → Int32} (he : f k = .inl (gT E 0, N, .inl g)) {i x : Int32} (hin : vp_in i N) (d : decode cc pc = .ok (.iastore, 1)) (kk : ∀ (H1 : Heap) (locs1 : List Loc), Hc E (va_up f k (.inl (gT E 0, N, .inl (upd g i.toNatClampNeg x)))) n s H1 locs1 → W p l e R s m args below meth c H1 locs1 cells slots Q (F0 m (pc + 1) ls rest)) : W p l e R s m args below meth c H locs cells slots Q (F0 m pc ls (.int x :: .int i :: .ref (gB E + k) :: rest)) :=
  va_iast C.1 C.2.1 G.K X.1 cwdD X.2 k 0 ((cwd_at hk).trans (by rw [he])) rfl hin d (fun H1 locs1 h1 _ h3 => kk H1 locs1 ⟨by rw [cwd_set hk] at h1; exact h1, h3⟩)
theorem castS (C : Cx p s m args meth c cc ret nL own) (G : Gf E s) (X : Hc E f n s H locs) {k : Nat} (hk : k < n) {N : Nat} {g : Nat → Option Nat} (he : f k = .inl (gT E 2, N, .inr (.inr (.inr (.inr g))))) {i : Int32} (hin : vp_in i N) {v : Nat} (hr : va_Any "PaneStreet$Street" s H v) (d : decode cc pc = .ok (.aastore, 1)) (kk : ∀ (H1 : Heap) (locs1 : List Loc), Hc E (va_up f k (.inl (gT E 2, N, .inr (.inr (.inr (.inr (va_up g i.toNatClampNeg (some v)))))))) n s H1 locs1 → W p l e R s m args below meth c H1 locs1 cells slots Q (F0 m (pc + 1) ls rest)) : W p l e R s m args below meth c H locs cells slots Q (F0 m pc ls (.ref v :: .int i :: .ref (gB E + k) :: rest)) :=
  va_astqM C.1 C.2.1 G.K X.1 cwdD X.2 k 2 ((cwd_at hk).trans (by rw [he])) rfl hr hin d (fun H1 locs1 h1 _ h3 => kk H1 locs1 ⟨by rw [cwd_set hk] at h1; exact h1, h3⟩)
theorem canyS (G : Gf E s) (X : Hc E f n s H locs) {k : Nat} (hk : k < n) {fs : List Value} (he : f k = .inr (6, fs)) : va_Any "PaneStreet$Street" s H (gB E + k) := by
  obtain ⟨cell, h1, h2, h3⟩ := va_recv G.K X.1 (show vwCl[6]? = some (RX7, TX7, 20) from rfl) ((cwd_at hk).trans (by rw [he]))
  obtain ⟨kC, hkC, -⟩ := Vm.findClass_spec h3
  exact ⟨cell, h1, h2, ⟨kC, hkC⟩, fun comp hcomp => by rw [show s.vm.findClass RX7 = some comp from hcomp] at h3; cases h3; exact assign_self _ _⟩
theorem Hc.aext (X : Hc E f n s H locs) {k N : Nat} {g g' : Nat → Option Nat} (hk : k < n) (he : f k = .inl (gT E 2, N, .inr (.inr (.inr (.inr g))))) (hg : ∀ j, j < N → g j = g' j) : Hc E (va_up f k (.inl (gT E 2, N, .inr (.inr (.inr (.inr g')))))) n s H locs := by
  refine ⟨cwd_P.mpr fun j hj => ?_, X.2⟩
  by_cases h : j = k
  · subst h
    rw [va_up, if_pos rfl]
    have h1 := cwd_P.mp X.1 j hj
    rw [he] at h1
    have h2 : H[gB E + j]? = some (arrV (gT E 2) N (fun q => va_rf (g q))) := h1
    show H[gB E + j]? = some (arrV (gT E 2) N (fun q => va_rf (g' q)))
    rw [h2, arrV, arrV]
    have e9 : (Array.ofFn (n := N) fun q => va_rf (g q.val)) = Array.ofFn (n := N) fun q => va_rf (g' q.val) := by
      congr 1
      funext q
      rw [hg q.val q.isLt]
    rw [e9]
  · rw [va_up, if_neg h]
    exact cwd_P.mp X.1 j hj
def fi1 (E : GE) (f : Nat → va_E) : Nat → va_E := va_up (fi E 399 12 f) 400 (.inl (gT E 0, 888, .inl (upd (upd (zr 0) 1 (-1)) 10 1)))
end CONS

/-! terms, texts, throws -/
def gt (x : Int32) : Option Unit := if 1 ≤ x ∧ x ≤ 32 then some () else none
def gt2 (x y : Int32) : Option Unit := if (0 ≤ x ∧ x ≤ 32) ∧ 0 ≤ y ∧ y ≤ 32 then some () else none
def gn (x : Int32) : Option Unit := gt x
def gs (i : Nat) : Option Unit := if i < txN then some () else none
def tFa (x : Int32) : Option Int32 := if 1 ≤ x ∧ x ≤ 32 then some (fctL.getD (x.toNatClampNeg - 1) 0) else none
def tSp (x : Int32) : Option Nat := if 1 ≤ x ∧ x ≤ 32 then some (spL.getD (x.toNatClampNeg - 1) 0) else none
def tAl (i : Int32) : Option Int32 := if 0 ≤ i ∧ i < 32 then some (i + 1) else none
def hSl (i : Int32) : Option Nat := if 0 ≤ i ∧ i < 12 then some (113 + 21 * i.toNatClampNeg) else none
def oV (E : GE) (o : Option Nat) : Value := va_rf (o.map (fun k => gB E + k))
def gk2 (a : Nat) : Option Unit := if kd a = 2 then some () else none
theorem gk2_s {a : Nat} {u : Unit} (h : gk2 a = some u) : kd a = 2 := by
  unfold gk2 at h
  by_cases c : kd a = 2
  · exact c
  · rw [if_neg c] at h; cases h
theorem i32_in {x : Int32} {n : Nat} (h1 : 0 ≤ x) (h2 : x < nI n) (hn : n < 2 ^ 31) : ∃ j, j < n ∧ x = nI j := by
  refine vp_in_of (vp_in_iff.mpr ⟨?_, ?_⟩) hn
  · have := Int32.le_iff_toInt_le.mp h1; rw [Int32.toInt_zero] at this; exact this
  · have := Int32.lt_iff_toInt_lt.mp h2; rw [nI_toInt hn] at this; exact this
theorem t1_of {x : Int32} (h : 1 ≤ x ∧ x ≤ 32) : ∃ i, i < 32 ∧ x = nI (i + 1) := by
  have h1 := Int32.le_iff_toInt_le.mp h.1
  have h2 := Int32.le_iff_toInt_le.mp h.2
  rw [show (1 : Int32).toInt = 1 by decide] at h1
  rw [show (32 : Int32).toInt = 32 by decide] at h2
  obtain ⟨j, hj, rfl⟩ := i32_in (n := 33) (x := x) (Int32.le_iff_toInt_le.mpr (by rw [Int32.toInt_zero]; omega)) (Int32.lt_iff_toInt_lt.mpr (by rw [nI_toInt (by decide)]; omega)) (by decide)
  rw [nI_toInt (by omega)] at h1
  exact ⟨j - 1, by omega, by rw [show j - 1 + 1 = j by omega]⟩
theorem tV_of {E : GE} {i : Nat} (hi : i < 32) : tV E (nI (i + 1)) = .ref (gA E i) := by
  unfold tV tO
  rw [if_neg (nI_ne0 (by omega) (by omega)), nI_clamp (by omega)]
  rfl
theorem gt_s {E : GE} {x : Int32} {u : Unit} (h : gt x = some u) : ∃ i, i < 32 ∧ x = nI (i + 1) ∧ tV E x = .ref (gA E i) := by
  unfold gt at h
  by_cases c : 1 ≤ x ∧ x ≤ 32
  · obtain ⟨i, hi, rfl⟩ := t1_of c
    exact ⟨i, hi, rfl, tV_of hi⟩
  · rw [if_neg c] at h; cases h
theorem assign_self (vm : Vm) (c : ClassId) : vm.assignable c c = true := by
  first | (show vm.assignableAux _ c c = true; unfold Vm.assignableAux; simp)
theorem hSl_kd : ∀ j, j < 12 → kd (113 + 21 * j) = 2 := by decide +kernel
theorem hSl_s {i : Int32} {v : Nat} (h : hSl i = some v) : vp_in i (ln 112) ∧ 112 + 1 + 21 * i.toNatClampNeg = v ∧ kd v = 2 := by
  unfold hSl at h
  by_cases c : 0 ≤ i ∧ i < 12
  · obtain ⟨j, hj, rfl⟩ := i32_in (n := 12) c.1 c.2 (by decide)
    rw [if_pos c, nI_clamp (by omega)] at h
    obtain rfl := Option.some.inj h
    exact ⟨by rw [show ln 112 = 12 by decide +kernel]; exact vp_in_nI hj (by decide), by rw [nI_clamp (by omega)], hSl_kd j hj⟩
  · rw [if_neg c] at h; cases h
theorem va_rf_cat (r : Option Nat) : (va_rf r).category = 1 := by cases r <;> rfl
section ROWS3
variable {p : Program} {l : Launch} {e : Env} {R : Room} {s : State} {m : MethodId} {args : Array Value} {below : List Frame} {meth : Method} {c : Code} {H : Heap} {locs : List Loc} {cells slots : Nat} {Q : State → Prop}
variable {cc : ByteArray} {nL pc : Nat} {ls : Array Slot} {rest : List Value} {E : GE} {σ : Mem} {own : String} {ret : Option FieldType}
theorem lq_aload_n (hexec : p.tables.exec = Jvm.exec) (hb : c.code = cc) {k : Fin 4} {i : Nat} {r : Option Nat} (hdg : decode cc pc = .ok (.aload_n k, 1)) (hi : (k : Nat) = i) (hl : ls[i]? = some (.val (va_rf r)))
    (kk : W p l e R s m args below meth c H locs cells slots Q (F0 m (pc + 1) ls (va_rf r :: rest))) : W p l e R s m args below meth c H locs cells slots Q (F0 m pc ls rest) := by
  cases r with
  | none => exact lv_aload_nN hexec hb hdg hi hl kk
  | some x => exact lv_aload_n hexec hb hdg hi hl kk
theorem lq_aload (hexec : p.tables.exec = Jvm.exec) (hb : c.code = cc) {i : Nat} {r : Option Nat} (hdg : decode cc pc = .ok (.aload i, 2)) (hl : ls[i]? = some (.val (va_rf r)))
    (kk : W p l e R s m args below meth c H locs cells slots Q (F0 m (pc + 2) ls (va_rf r :: rest))) : W p l e R s m args below meth c H locs cells slots Q (F0 m pc ls rest) := by
  cases r with
  | none => exact lv_aloadN hexec hb hdg hl kk
  | some x => exact lv_aload hexec hb hdg hl kk
theorem lq_astore_n (hexec : p.tables.exec = Jvm.exec) (hb : c.code = cc) {k : Fin 4} {i : Nat} {r : Option Nat} {lv lv' : List (Nat × Value)} (hdg : decode cc pc = .ok (.astore_n k, 1)) (hi : (k : Nat) = i) (h : lv_has ls nL lv) (hn : i < nL) (hl : (i, va_rf r) :: lv.filter (fun q => !(q.1 == i) && !(q.1 + 1 == i && q.2.category == 2)) = lv')
    (kk : ∀ ls' : Array Slot, lv_has ls' nL lv' → W p l e R s m args below meth c H locs cells slots Q (F0 m (pc + 1) ls' rest)) : W p l e R s m args below meth c H locs cells slots Q (F0 m pc ls (va_rf r :: rest)) := by
  cases r with
  | none => exact lv_astore_nN hexec hb hdg hi h hn hl kk
  | some x => exact lv_astore_n hexec hb hdg hi h hn hl kk
theorem lq_astore (hexec : p.tables.exec = Jvm.exec) (hb : c.code = cc) {i : Nat} {r : Option Nat} {lv lv' : List (Nat × Value)} (hdg : decode cc pc = .ok (.astore i, 2)) (h : lv_has ls nL lv) (hn : i < nL) (hl : (i, va_rf r) :: lv.filter (fun q => !(q.1 == i) && !(q.1 + 1 == i && q.2.category == 2)) = lv')
    (kk : ∀ ls' : Array Slot, lv_has ls' nL lv' → W p l e R s m args below meth c H locs cells slots Q (F0 m (pc + 2) ls' rest)) : W p l e R s m args below meth c H locs cells slots Q (F0 m pc ls (va_rf r :: rest)) := by
  cases r with
  | none => exact lv_astoreN hexec hb hdg h hn hl kk
  | some x => exact lv_astore hexec hb hdg h hn hl kk
theorem gsT (C : Cx p s m args meth c cc ret nL own) (G : Gf E s) (X : Hx E σ s H locs) {i : Nat} {x : Int32} {index : Nat} (hi : i < 32) (hx : x = nI (i + 1)) {nm : String} (hn : tmN.getD i "" = nm) (hl : Cond.fieldLink own index "PaneStreet$Term" nm "LPaneStreet$Term;" ∈ WU) (d : decode cc pc = .ok (.getstatic index, 3))
    (kk : W p l e R s m args below meth c H locs cells slots Q (F0 m (pc + 3) ls (tV E x :: rest))) : W p l e R s m args below meth c H locs cells slots Q (F0 m pc ls rest) := by
  subst hx; subst hn
  rw [tV_of hi] at kk
  exact va_gets C.1 C.2.1 (G.2.2.1.1.1 i hi).1 X.2 C.hown (C.ts _ hl) (fun x h => h) d kk
theorem gsALL (C : Cx p s m args meth c cc ret nL "PaneStreet$Text") (G : Gf E s) (X : Hx E σ s H locs) {index : Nat} (hl : Cond.fieldLinkNest "PaneStreet$Text" index "PaneStreet$Term" "ALL" "[LPaneStreet$Term;" "PaneStreet" ∈ nstL) (d : decode cc pc = .ok (.getstatic index, 3))
    (kk : W p l e R s m args below meth c H locs cells slots Q (F0 m (pc + 3) ls (.ref (gZ E) :: rest))) : W p l e R s m args below meth c H locs cells slots Q (F0 m pc ls rest) :=
  va_getsN C.1 C.2.1 G.2.2.2.1.1 X.2 C.hown (va_Nw.use rfl (G.2.1.1 _ hl)) (fun x h => h) d kk
theorem alnZ (C : Cx p s m args meth c cc ret nL own) (G : Gf E s) (X : Hx E σ s H locs) (d : decode cc pc = .ok (.arraylength, 1))
    (kk : W p l e R s m args below meth c H locs cells slots Q (F0 m (pc + 1) ls (.int (nI 32) :: rest))) : W p l e R s m args below meth c H locs cells slots Q (F0 m pc ls (.ref (gZ E) :: rest)) :=
  va_tlen C.1 C.2.1 G.2.2.2.1.2 X.2 rfl d kk
theorem aldZ (C : Cx p s m args meth c cc ret nL own) (G : Gf E s) (X : Hx E σ s H locs) {i v : Int32} (h : tAl i = some v) (d : decode cc pc = .ok (.aaload, 1))
    (kk : W p l e R s m args below meth c H locs cells slots Q (F0 m (pc + 1) ls (tV E v :: rest))) : W p l e R s m args below meth c H locs cells slots Q (F0 m pc ls (.int i :: .ref (gZ E) :: rest)) := by
  unfold tAl at h
  by_cases q : 0 ≤ i ∧ i < 32
  · rw [if_pos q] at h
    obtain ⟨j, hj, rfl⟩ := i32_in (n := 32) q.1 q.2 (by decide)
    rw [← Option.some.inj h, nI_1, tV_of hj] at kk
    exact vb_tq C.1 C.2.1 G.2.2.2.1.2 X.2 (vp_in_nI hj (by decide)) (by rw [nI_clamp (by omega)]) d kk
  · rw [if_neg q] at h; cases h
theorem gfFa (C : Cx p s m args meth c cc ret nL own) (G : Gf E s) (X : Hx E σ s H locs) {x v : Int32} {index : Nat} (h : tFa x = some v) (hl : Cond.fieldLink own index "PaneStreet$Term" "fact" "I" ∈ WU) (d : decode cc pc = .ok (.getfield index, 3))
    (kk : W p l e R s m args below meth c H locs cells slots Q (F0 m (pc + 3) ls (.int v :: rest))) : W p l e R s m args below meth c H locs cells slots Q (F0 m pc ls (tV E x :: rest)) := by
  unfold tFa at h
  by_cases q : 1 ≤ x ∧ x ≤ 32
  · rw [if_pos q] at h
    obtain ⟨i, hi, rfl⟩ := t1_of q
    rw [← Option.some.inj h, nI_clamp (by omega), Nat.add_sub_cancel] at kk
    rw [tV_of hi]
    exact va_getE C.1 C.2.1 G.2.2.1.1 hi X.2 C.hown (q := ("PaneStreet$Term", "fact", "I", fctL)) List.mem_cons_self (C.ts _ hl) (fun x h => h) d kk
  · rw [if_neg q] at h; cases h
theorem gfSp (C : Cx p s m args meth c cc ret nL own) (G : Gf E s) (X : Hx E σ s H locs) {x : Int32} {v : Nat} {index : Nat} (h : tSp x = some v) (hl : Cond.fieldLink own index "PaneStreet$Term" "spelling" "Ljava/lang/String;" ∈ WU) (d : decode cc pc = .ok (.getfield index, 3))
    (kk : W p l e R s m args below meth c H locs cells slots Q (F0 m (pc + 3) ls (.ref (gK E v) :: rest))) : W p l e R s m args below meth c H locs cells slots Q (F0 m pc ls (tV E x :: rest)) := by
  unfold tSp at h
  by_cases q : 1 ≤ x ∧ x ≤ 32
  · rw [if_pos q] at h
    obtain ⟨i, hi, rfl⟩ := t1_of q
    rw [← Option.some.inj h, nI_clamp (by omega), Nat.add_sub_cancel] at kk
    rw [tV_of hi]
    exact va_getX C.1 C.2.1 G.2.2.1.2 hi X.2 C.hown (C.ts _ hl) (fun x h => h) d kk
  · rw [if_neg q] at h; cases h
theorem rcT (G : Gf E s) (X : Hx E σ s H locs) {i : Nat} (hi : i < 32) : ∃ cell : Cell, H[gA E i]? = some cell ∧ cell.vm.isStatics = false ∧ s.vm.findClass "PaneStreet$Term" = some cell.cls := va_recvE G.2.2.1.1 hi X.2
theorem rcS (G : Gf E s) (X : Hx E σ s H locs) {i : Nat} {u : Unit} (h : gs i = some u) : ∃ cell : Cell, H[gK E i]? = some cell ∧ cell.vm.isStatics = false ∧ s.vm.findClass "java/lang/String" = some cell.cls := by
  unfold gs at h
  by_cases q : i < txN
  · exact vk_recv G.2.2.2.2.1.1 q X.2
  · rw [if_neg q] at h; cases h
theorem tO_inj (G : Gf E s) {x y : Int32} {u : Unit} (h : gt2 x y = some u) : tO E x = tO E y ↔ x = y := by
  unfold gt2 at h
  by_cases q : (0 ≤ x ∧ x ≤ 32) ∧ 0 ≤ y ∧ y ≤ 32
  · have le33 : ∀ z : Int32, z ≤ 32 → z < nI 33 := fun z hz => Int32.lt_iff_toInt_lt.mpr (by
      have := Int32.le_iff_toInt_le.mp hz
      rw [show (32 : Int32).toInt = 32 by decide] at this
      rw [nI_toInt (by decide)]; omega)
    obtain ⟨i, hi, rfl⟩ := i32_in (n := 33) q.1.1 (le33 _ q.1.2) (by decide)
    obtain ⟨j, hj, rfl⟩ := i32_in (n := 33) q.2.1 (le33 _ q.2.2) (by decide)
    refine ⟨fun e => ?_, fun e => by rw [e]⟩
    unfold tO at e
    rcases Nat.eq_zero_or_pos i with rfl | hi0 <;> rcases Nat.eq_zero_or_pos j with rfl | hj0
    · rfl
    · rw [if_pos nI_0, if_neg (nI_ne0 hj0 (by omega))] at e; cases e
    · rw [if_pos nI_0, if_neg (nI_ne0 hi0 (by omega))] at e; cases e
    · rw [if_neg (nI_ne0 hi0 (by omega)), if_neg (nI_ne0 hj0 (by omega)), nI_clamp (by omega), nI_clamp (by omega)] at e
      have := G.2.2.1.1.2 (i - 1) (j - 1) (show i - 1 < 32 by omega) (show j - 1 < 32 by omega) (Option.some.inj e)
      rw [show i = j by omega]
  · rw [if_neg q] at h; cases h
theorem ac_eq (C : Cx p s m args meth c cc ret nL own) (G : Gf E s) {x y : Int32} {u : Unit} {off : Int} {tgt : Nat} (h : gt2 x y = some u) (hdg : decode cc pc = .ok (.if_acmp .eq off, 3)) (ht : (pc : Int) + off = (tgt : Int))
    (kt : x = y → W p l e R s m args below meth c H locs cells slots Q (F0 m tgt ls rest)) (kf : ¬ x = y → W p l e R s m args below meth c H locs cells slots Q (F0 m (pc + 3) ls rest)) : W p l e R s m args below meth c H locs cells slots Q (F0 m pc ls (tV E y :: tV E x :: rest)) :=
  lv_acmp_eq C.1 C.2.1 hdg ht (fun q => kt ((tO_inj G h).mp q)) (fun q => kf (fun z => q ((tO_inj G h).mpr z)))
theorem ac_ne (C : Cx p s m args meth c cc ret nL own) (G : Gf E s) {x y : Int32} {u : Unit} {off : Int} {tgt : Nat} (h : gt2 x y = some u) (hdg : decode cc pc = .ok (.if_acmp .ne off, 3)) (ht : (pc : Int) + off = (tgt : Int))
    (kt : ¬ x = y → W p l e R s m args below meth c H locs cells slots Q (F0 m tgt ls rest)) (kf : x = y → W p l e R s m args below meth c H locs cells slots Q (F0 m (pc + 3) ls rest)) : W p l e R s m args below meth c H locs cells slots Q (F0 m pc ls (tV E y :: tV E x :: rest)) :=
  lv_acmp_ne C.1 C.2.1 hdg ht (fun q => kt (fun z => q ((tO_inj G h).mpr z))) (fun q => kf ((tO_inj G h).mp q))
theorem ifnull_T (C : Cx p s m args meth c cc ret nL own) {x : Int32} {off : Int} {tgt : Nat} (hdg : decode cc pc = .ok (.ifnull off, 3)) (ht : (pc : Int) + off = (tgt : Int))
    (kt : x = 0 → W p l e R s m args below meth c H locs cells slots Q (F0 m tgt ls rest)) (kf : ¬ x = 0 → W p l e R s m args below meth c H locs cells slots Q (F0 m (pc + 3) ls rest)) : W p l e R s m args below meth c H locs cells slots Q (F0 m pc ls (tV E x :: rest)) := by
  by_cases h : x = 0
  · rw [tV, tO, if_pos h]; exact lv_ifnullN C.1 C.2.1 hdg ht (kt h)
  · rw [tV, tO, if_neg h]; exact lv_ifnull C.1 C.2.1 hdg (kf h)
theorem ifnonnull_T (C : Cx p s m args meth c cc ret nL own) {x : Int32} {off : Int} {tgt : Nat} (hdg : decode cc pc = .ok (.ifnonnull off, 3)) (ht : (pc : Int) + off = (tgt : Int))
    (kt : ¬ x = 0 → W p l e R s m args below meth c H locs cells slots Q (F0 m tgt ls rest)) (kf : x = 0 → W p l e R s m args below meth c H locs cells slots Q (F0 m (pc + 3) ls rest)) : W p l e R s m args below meth c H locs cells slots Q (F0 m pc ls (tV E x :: rest)) := by
  by_cases h : x = 0
  · rw [tV, tO, if_pos h]; exact lv_ifnonnullN C.1 C.2.1 hdg (kf h)
  · rw [tV, tO, if_neg h]; exact lv_ifnonnull C.1 C.2.1 hdg ht (kt h)
theorem astT (C : Cx p s m args meth c cc ret nL own) (G : Gf E s) (X : Hx E σ s H locs) {k : Nat} (hk : kd k = 11) {i x : Int32} {u : Unit} (hin : vp_in i (ln k)) (hx : gt x = some u) (d : decode cc pc = .ok (.aastore, 1))
    (kk : ∀ (H1 : Heap) (locs1 : List Loc), Hx E (st σ k i.toNatClampNeg x) s H1 locs1 → W p l e R s m args below meth c H1 locs1 cells slots Q (F0 m (pc + 1) ls rest)) : W p l e R s m args below meth c H locs cells slots Q (F0 m pc ls (tV E x :: .int i :: .ref (gB E + k) :: rest)) := by
  obtain ⟨j, hj, hxj, hv⟩ := gt_s (E := E) hx
  have hany : va_Any "PaneStreet$Term" s H (gA E j) := by
    obtain ⟨cell, h1, h2, h3⟩ := rcT G X hj
    obtain ⟨kC, hkC, -⟩ := Vm.findClass_spec h3
    exact ⟨cell, h1, h2, ⟨kC, hkC⟩, fun comp hcomp => by rw [h3] at hcomp; cases hcomp; exact assign_self _ _⟩
  rw [hv]
  refine va_astqM C.1 C.2.1 G.K X.1 ceD X.2 k 1 (ce_k 11 hk (by decide)) rfl hany hin d (fun H1 locs1 h1 _ h3 => kk H1 locs1 ⟨?_, h3⟩)
  rw [ce_sr (f := upd (σ k) i.toNatClampNeg x) (e := .inl (gT E 1, ln k, .inr (.inr (.inr (.inr (va_up (fun j => tO E (σ k j)) i.toNatClampNeg (some (gA E j)))))))) hk (by decide) (by
    have e1 : va_up (fun j => tO E (σ k j)) i.toNatClampNeg (some (gA E j)) = fun j => tO E (upd (σ k) i.toNatClampNeg x j) := by
      funext q
      simp only [va_up, upd]
      split
      · rw [hxj]; unfold tO; rw [if_neg (nI_ne0 (by omega) (by omega)), nI_clamp (by omega)]; rfl
      · rfl
    rw [e1]; rfl)] at h1
  exact h1
theorem ldS (C : Cx p s m args meth c cc ret nL own) (G : Gf E s) {i ti : Nat} {tx : String} (h : (own, i, tx, ti) ∈ strL) (d : decode cc pc = .ok (.ldc i, 2))
    (kk : W p l e R s m args below meth c H locs cells slots Q (F0 m (pc + 2) ls (.ref (gK E ti) :: rest))) : W p l e R s m args below meth c H locs cells slots Q (F0 m pc ls rest) := by
  have q := G.2.2.2.2.1.2.1 _ h
  exact va_ldcS C.1 C.2.1 C.hown q d kk
end ROWS3

/-! the JDK's own: System.arraycopy between int rows; String.length, String.charAt of the constants -/
def cp (σ : Mem) (k0 : Nat) (sp : Int32) (k1 : Nat) (dp n : Int32) : Option Mem :=
  if ¬ sp < 0 ∧ ¬ dp < 0 ∧ ¬ n < 0 ∧ sp.toNatClampNeg + n.toNatClampNeg ≤ ln k0 ∧ dp.toNatClampNeg + n.toNatClampNeg ≤ ln k1 then some (sr σ k1 (va_cpy (σ k0) (σ k1) sp.toNatClampNeg dp.toNatClampNeg n.toNatClampNeg)) else none
def slen (σ : Mem) (i : Nat) : Option Int32 := if i < txN then some (nI (txL.getD i 0)) else none
def scha (σ : Mem) (i : Nat) (k : Int32) : Option Int32 := if i < txN ∧ ¬ (k < 0 ∨ txL.getD i 0 ≤ k.toNatClampNeg) then some ((txB.getD i []).getD k.toNatClampNeg 0) else none
theorem tx_all : ∀ i, i < 30 → (txL.getD i 0 < 100 ∧ ∀ j, j < 100 → ((((txB.getD i []).getD j 0 &&& 255).toUInt32 % 65536).toInt32 = (txB.getD i []).getD j 0 ∧ narrow .char (.int ((txB.getD i []).getD j 0)) = .int ((txB.getD i []).getD j 0))) := by decide +kernel
theorem tV_cat (E : GE) (x : Int32) : (tV E x).category = 1 := va_rf_cat _
theorem oV_cat (E : GE) (o : Option Nat) : (oV E o).category = 1 := va_rf_cat _
section JDK
variable {p : Program} {l : Launch} {e : Env} {R : Room} {s : State} {m : MethodId} {args : Array Value} {below : List Frame} {meth : Method} {c : Code} {H : Heap} {locs : List Loc} {cells slots : Nat} {Q : State → Prop}
variable {cc : ByteArray} {nL pc : Nat} {ls : Array Slot} {rest : List Value} {E : GE} {σ σ' : Mem} {own : String} {ret : Option FieldType}
theorem acp (C : Cx p s m args meth c cc ret nL own) (G : Gf E s) (X : Hx E σ s H locs) (hls : ls.size = nL) {k0 k1 : Nat} (hk0 : kd k0 = 0) (hk1 : kd k1 = 0) {sp dp n : Int32} {index : Nat} (h : cp σ k0 sp k1 dp n = some σ') (hl : Cond.methodLink own index arraycopyName ∈ WU) (hR : 1 ≤ R.frames ∧ (rest.map fun v => v.category).sum + (nativeFrameWords "java/lang/System" "arraycopy" 5 + 11) ≤ R.locals) (d : decode cc pc = .ok (.invokestatic index, 3))
    (kk : ∀ (H1 : Heap) (locs1 : List Loc), Hx E σ' s H1 locs1 → W p l e R s m args below meth c H1 locs1 cells slots Q (F0 m (pc + 3) ls rest)) : W p l e R s m args below meth c H locs cells slots Q (F0 m pc ls (.int n :: .int dp :: .ref (gB E + k1) :: .int sp :: .ref (gB E + k0) :: rest)) := by
  unfold cp at h
  by_cases q : ¬ sp < 0 ∧ ¬ dp < 0 ∧ ¬ n < 0 ∧ sp.toNatClampNeg + n.toNatClampNeg ≤ ln k0 ∧ dp.toNatClampNeg + n.toNatClampNeg ≤ ln k1
  · rw [if_pos q] at h
    obtain ⟨q1, q2, q3, q4, q5⟩ := q
    refine va_copyi C.1 C.2.1 (by rw [C.ml, hls]) C.hown (C.ts _ hl) (C.ts _ k_483) (C.ts _ k_482) (C.ts _ k_121) G.K X.1 ceD X.2 k0 k1 0 0 (ce_k 0 hk0 (by decide)) (ce_k 0 hk1 (by decide)) rfl rfl rfl q1 q2 q3 q4 q5 (fun _ _ => rfl) hR.1 hR.2 d (fun H1 locs1 h1 _ h3 => kk H1 locs1 ⟨?_, h3⟩)
    rw [ce_sr (f := va_cpy (σ k0) (σ k1) sp.toNatClampNeg dp.toNatClampNeg n.toNatClampNeg) (e := .inl (gT E 0, ln k1, .inl (va_cpy (σ k0) (σ k1) sp.toNatClampNeg dp.toNatClampNeg n.toNatClampNeg))) hk1 (by decide) rfl] at h1
    rw [← Option.some.inj h]; exact h1
  · rw [if_neg q] at h; cases h
theorem rtZc {r0 : Int32} {ty : FieldType} (C : Cx p s m args meth c cc (some ty) nL own) (X : Hx E σ s H locs) (hz : narrow ty (.int r0) = .int r0) (d : decode cc pc = .ok (.ireturn, 1)) : W p l e R s m args below meth c H locs cells slots (MQ below (va_Qi (fun (r : Int32) (u : Mem) => r = r0 ∧ u = σ) (We E) (Fr E)) args s cells slots (Fr E)) (F0 m pc ls [.int r0]) :=
  W.zret C.1 C.2.1 C.2.2.1 hz (fun t ht _ => ⟨⟨r0, σ, rfl, ⟨rfl, rfl⟩, by rw [We, ht]; exact X.1⟩, X.2.F ht⟩) X.2.2.2 d C.lk
theorem gsC (C : Cx p s m args meth c cc ret nL "java/lang/String") (G : Gf E s) (X : Hx E σ s H locs) (d : decode cc pc = .ok (.getstatic 38, 3))
    (kk : W p l e R s m args below meth c H locs cells slots Q (F0 m (pc + 3) ls (.int 1 :: rest))) : W p l e R s m args below meth c H locs cells slots Q (F0 m pc ls rest) :=
  va_gets C.1 C.2.1 G.2.2.2.2.2.2.2.1 X.2 C.hown (C.ts _ k_848) (fun x h => h) d kk
theorem gfco (C : Cx p s m args meth c cc ret nL "java/lang/String") (G : Gf E s) (X : Hx E σ s H locs) {i : Nat} (hi : i < txN) (d : decode cc pc = .ok (.getfield 15, 3))
    (kk : W p l e R s m args below meth c H locs cells slots Q (F0 m (pc + 3) ls (.int 0 :: rest))) : W p l e R s m args below meth c H locs cells slots Q (F0 m pc ls (.ref (gK E i) :: rest)) :=
  vk_getf C.1 C.2.1 (G.2.2.2.2.1.1.1 i hi).2.1 X.2 C.hown (C.ts _ k_2319) (fun x h => h) d kk
theorem gfva (C : Cx p s m args meth c cc ret nL "java/lang/String") (G : Gf E s) (X : Hx E σ s H locs) {i : Nat} (hi : i < txN) (d : decode cc pc = .ok (.getfield 9, 3))
    (kk : W p l e R s m args below meth c H locs cells slots Q (F0 m (pc + 3) ls (.ref (gV E i) :: rest))) : W p l e R s m args below meth c H locs cells slots Q (F0 m pc ls (.ref (gK E i) :: rest)) :=
  vk_getf C.1 C.2.1 (G.2.2.2.2.1.1.1 i hi).2.2.1 X.2 C.hown (C.ts _ k_2318) (fun x h => h) d kk
end JDK
theorem c_coder (l : Launch) (E : GE) {σ : Mem} {i : Nat} (hi : i < txN) : CtI l E yJ0_coder_7d493 cJ0_coder_7d493 1 .byte 1 [.ref (gK E i)] σ 0 σ := by
  refine Met.ofW (cc := cJ0_coder_7d493) (maxL := 1) (ret := some .byte) (by decide) rfl ?_
  intro p e s m args below meth c s₁ B hml hv
  obtain ⟨rfl, G, X⟩ := start hv
  have C : Cx p s m [.ref (gK E i)].toArray meth c cJ0_coder_7d493 (some .byte) 1 "java/lang/String" := cxof B hml
  have hl := lv_entry [.ref (gK E i)] (n := 1) (Nat.le_of_ble_eq_true rfl)
  rw [lg_entry_eq]
  generalize (lg_sl [.ref (gK E i)] ++ List.replicate (1 - (lg_sl [.ref (gK E i)]).length) Slot.unset).toArray = ls at hl ⊢
  refine gsC C G X dJ0_coder_7d493_0 ?_
  refine lv_if_eq (tgt := 13) C.1 C.2.1 dJ0_coder_7d493_3 (by decide) (fun z => absurd z (by decide)) (fun _ => ?_)
  refine lv_aload_n C.1 C.2.1 dJ0_coder_7d493_6 rfl (lv_at hl 0 rfl) ?_
  refine gfco C G X hi dJ0_coder_7d493_7 ?_
  refine lv_goto (tgt := 14) C.1 C.2.1 dJ0_coder_7d493_10 (by decide) ?_
  exact rtZc C X (by decide) dJ0_coder_7d493_14
theorem c_isLatin1 (l : Launch) (E : GE) {σ : Mem} {i : Nat} (hi : i < txN) : CtI l E yJ0_isLatin1_aae02 cJ0_isLatin1_aae02 1 .boolean 1 [.ref (gK E i)] σ 1 σ := by
  refine Met.ofW (cc := cJ0_isLatin1_aae02) (maxL := 1) (ret := some .boolean) (by decide) rfl ?_
  intro p e s m args below meth c s₁ B hml hv
  obtain ⟨rfl, G, X⟩ := start hv
  have C : Cx p s m [.ref (gK E i)].toArray meth c cJ0_isLatin1_aae02 (some .boolean) 1 "java/lang/String" := cxof B hml
  have hl := lv_entry [.ref (gK E i)] (n := 1) (Nat.le_of_ble_eq_true rfl)
  rw [lg_entry_eq]
  generalize (lg_sl [.ref (gK E i)] ++ List.replicate (1 - (lg_sl [.ref (gK E i)]).length) Slot.unset).toArray = ls at hl ⊢
  refine gsC C G X dJ0_isLatin1_aae02_0 ?_
  refine lv_if_eq (tgt := 17) C.1 C.2.1 dJ0_isLatin1_aae02_3 (by decide) (fun z => absurd z (by decide)) (fun _ => ?_)
  refine lv_aload_n C.1 C.2.1 dJ0_isLatin1_aae02_6 rfl (lv_at hl 0 rfl) ?_
  refine gfco C G X hi dJ0_isLatin1_aae02_7 ?_
  refine lv_if_ne (tgt := 17) C.1 C.2.1 dJ0_isLatin1_aae02_10 (by decide) (fun z => absurd rfl z) (fun _ => ?_)
  refine lv_iconst (v := 1) C.1 C.2.1 dJ0_isLatin1_aae02_13 (by decide) ?_
  refine lv_goto (tgt := 18) C.1 C.2.1 dJ0_isLatin1_aae02_14 (by decide) ?_
  exact rtZc C X (by decide) dJ0_isLatin1_aae02_18
theorem c_slen (l : Launch) (E : GE) {σ : Mem} {i : Nat} {r : Int32} (h : slen σ i = some r) : CtI l E yJ0_length_8abf5 cJ0_length_8abf5 1 .int 8 [.ref (gK E i)] σ r σ := by
  unfold slen at h
  by_cases hi : i < txN
  · rw [if_pos hi] at h
    refine Met.ofW (cc := cJ0_length_8abf5) (maxL := 1) (ret := some .int) (by decide) rfl ?_
    intro p e s m args below meth c s₁ B hml hv
    obtain ⟨rfl, G, X⟩ := start hv
    have C : Cx p s m [.ref (gK E i)].toArray meth c cJ0_length_8abf5 (some .int) 1 "java/lang/String" := cxof B hml
    have hl := lv_entry [.ref (gK E i)] (n := 1) (Nat.le_of_ble_eq_true rfl)
    rw [lg_entry_eq]
    generalize (lg_sl [.ref (gK E i)] ++ List.replicate (1 - (lg_sl [.ref (gK E i)]).length) Slot.unset).toArray = ls at hl ⊢
    refine lv_aload_n C.1 C.2.1 dJ0_length_8abf5_0 rfl (lv_at hl 0 rfl) ?_
    refine gfva C G X hi dJ0_length_8abf5_1 ?_
    refine va_tlen C.1 C.2.1 (G.2.2.2.2.1.1.1 i hi).2.2.2 X.2 rfl dJ0_length_8abf5_4 ?_
    refine lv_aload_n C.1 C.2.1 dJ0_length_8abf5_5 rfl (lv_at hl 0 rfl) ?_
    refine afI X (runV C G X q_coder k_845 k_846 k_844 (vk_recv G.2.2.2.2.1.1 hi X.2) (c_coder l E hi) rfl hl.1 rfl (Nat.le_of_ble_eq_true rfl) ⟨Nat.le_of_ble_eq_true rfl, Nat.le_of_ble_eq_true rfl⟩ ⟨Nat.le_of_ble_eq_true rfl, Nat.le_of_ble_eq_true rfl⟩ dJ0_length_8abf5_6) (fun H locs X => ?_)
    refine lv_ishr C.1 C.2.1 dJ0_length_8abf5_9 ?_
    rw [← Option.some.inj h, show (Int32.ofNat (txL.getD i 0)) >>> ((0 : Int32) &&& 31) = nI (txL.getD i 0) from sb_shr0 _]
    exact rtI C X dJ0_length_8abf5_10
  · rw [if_neg hi] at h; cases h
theorem c_pchk (l : Launch) (E : GE) {σ : Mem} {k n : Int32} {v : Value} (hv : v = .null ∨ ∃ t, v = .ref t) (h0 : ¬ k < 0) (h1 : k < n) : CtI l E yJ3_checkIndex_8e157 cJ3_checkIndex_8e157 3 .int 1 [.int k, .int n, v] σ k σ := by
  refine Met.ofW (cc := cJ3_checkIndex_8e157) (maxL := 3) (ret := some .int) (by decide) rfl ?_
  intro p e s m args below meth c s₁ B hml hq
  obtain ⟨rfl, G, X⟩ := start hq
  have C := cxof B hml
  have hcat : (lg_sl [.int k, .int n, v]).length ≤ 3 := by rcases hv with rfl | ⟨t, rfl⟩ <;> exact Nat.le_of_ble_eq_true rfl
  have hl := lv_entry [.int k, .int n, v] (n := 3) hcat
  rw [lg_entry_eq]
  generalize (lg_sl [.int k, .int n, v] ++ List.replicate (3 - (lg_sl [.int k, .int n, v]).length) Slot.unset).toArray = ls at hl ⊢
  have hl : lv_has ls 3 [(0, .int k), (1, .int n), (2, v)] := hl
  refine lv_iload_n C.1 C.2.1 dJ3_checkIndex_8e157_0 rfl (lv_at hl 0 rfl) ?_
  refine lv_if_lt (tgt := 9) C.1 C.2.1 dJ3_checkIndex_8e157_1 (by decide) (fun z => absurd z h0) (fun _ => ?_)
  refine lv_iload_n C.1 C.2.1 dJ3_checkIndex_8e157_4 rfl (lv_at hl 0 rfl) ?_
  refine lv_iload_n C.1 C.2.1 dJ3_checkIndex_8e157_5 rfl (lv_at hl 1 rfl) ?_
  refine lv_icmp_lt (tgt := 16) C.1 C.2.1 dJ3_checkIndex_8e157_6 (by decide) (fun _ => ?_) (fun z => absurd h1 z)
  refine lv_iload_n C.1 C.2.1 dJ3_checkIndex_8e157_16 rfl (lv_at hl 0 rfl) ?_
  exact rtI C X dJ3_checkIndex_8e157_17
theorem c_schk (l : Launch) (E : GE) {σ : Mem} {k n : Int32} (h0 : ¬ k < 0) (h1 : k < n) : CtV l E yJ0_checkIndex_df160 cJ0_checkIndex_df160 2 3 [.int k, .int n] σ σ := by
  refine Met.ofW (cc := cJ0_checkIndex_df160) (maxL := 2) (ret := none) (by decide) rfl ?_
  intro p e s m args below meth c s₁ B hml hq
  obtain ⟨rfl, G, X⟩ := start hq
  have C : Cx p s m [.int k, .int n].toArray meth c cJ0_checkIndex_df160 none 2 "java/lang/String" := cxof B hml
  have hl := lv_entry [.int k, .int n] (n := 2) (Nat.le_of_ble_eq_true rfl)
  rw [lg_entry_eq]
  generalize (lg_sl [.int k, .int n] ++ List.replicate (2 - (lg_sl [.int k, .int n]).length) Slot.unset).toArray = ls at hl ⊢
  have hl : lv_has ls 2 [(0, .int k), (1, .int n)] := hl
  refine lv_iload_n C.1 C.2.1 dJ0_checkIndex_df160_0 rfl (lv_at hl 0 rfl) ?_
  refine lv_iload_n C.1 C.2.1 dJ0_checkIndex_df160_1 rfl (lv_at hl 1 rfl) ?_
  obtain ⟨v, hv, hz⟩ : ∃ v : Value, (v = .null ∨ ∃ t, v = .ref t) ∧ va_Z "jdk/internal/util/Preconditions" "SIOOBE_FORMATTER" "Ljava/util/function/BiFunction;" v (Fr E) s s.heap := by
    rcases G.2.2.2.2.2.2.2.2 with h | ⟨t, h⟩
    · exact ⟨_, Or.inl rfl, h⟩
    · exact ⟨_, Or.inr ⟨t, rfl⟩, h⟩
  refine va_gets C.1 C.2.1 hz X.2 C.hown (C.ts _ k_864) (fun x h => h) dJ0_checkIndex_df160_2 ?_
  refine afI X (runS C G X q_pchk k_867 k_866 (c_pchk l E hv h0 h1) rfl hl.1 rfl (Nat.le_of_ble_eq_true rfl) ⟨Nat.le_of_ble_eq_true rfl, Nat.le_of_ble_eq_true rfl⟩ ⟨Nat.le_of_ble_eq_true rfl, Nat.le_of_ble_eq_true rfl⟩ dJ0_checkIndex_df160_5) (fun H locs X => ?_)
  refine lv_pop C.1 C.2.1 dJ0_checkIndex_df160_8 rfl ?_
  exact rtV C X dJ0_checkIndex_df160_9
theorem c_lcha (l : Launch) (E : GE) {σ : Mem} {i j : Nat} (hi : i < txN) (hj : j < txL.getD i 0) : CtI l E yJ1_charAt_3b067 cJ1_charAt_3b067 2 .char 5 [.ref (gV E i), .int (nI j)] σ ((txB.getD i []).getD j 0) σ := by
  obtain ⟨hL, hb⟩ := tx_all i hi
  refine Met.ofW (cc := cJ1_charAt_3b067) (maxL := 2) (ret := some .char) (by decide) rfl ?_
  intro p e s m args below meth c s₁ B hml hq
  obtain ⟨rfl, G, X⟩ := start hq
  have C : Cx p s m [.ref (gV E i), .int (nI j)].toArray meth c cJ1_charAt_3b067 (some .char) 2 "java/lang/StringLatin1" := cxof B hml
  have hl := lv_entry [.ref (gV E i), .int (nI j)] (n := 2) (Nat.le_of_ble_eq_true rfl)
  rw [lg_entry_eq]
  generalize (lg_sl [.ref (gV E i), .int (nI j)] ++ List.replicate (2 - (lg_sl [.ref (gV E i), .int (nI j)]).length) Slot.unset).toArray = ls at hl ⊢
  have hl : lv_has ls 2 [(0, .ref (gV E i)), (1, .int (nI j))] := hl
  refine lv_iload_n C.1 C.2.1 dJ1_charAt_3b067_0 rfl (lv_at hl 1 rfl) ?_
  refine lv_aload_n C.1 C.2.1 dJ1_charAt_3b067_1 rfl (lv_at hl 0 rfl) ?_
  refine va_tlen C.1 C.2.1 (G.2.2.2.2.1.1.1 i hi).2.2.2 X.2 rfl dJ1_charAt_3b067_2 ?_
  refine afV X (runS C G X q_schk k_862 k_861 (c_schk l E (k := nI j) (n := nI (txL.getD i 0)) (nI_pos (by omega)) (nI_lt hj (by omega))) rfl hl.1 rfl (Nat.le_of_ble_eq_true rfl) ⟨Nat.le_of_ble_eq_true rfl, Nat.le_of_ble_eq_true rfl⟩ ⟨Nat.le_of_ble_eq_true rfl, Nat.le_of_ble_eq_true rfl⟩ dJ1_charAt_3b067_3) (fun H locs X => ?_)
  refine lv_aload_n C.1 C.2.1 dJ1_charAt_3b067_6 rfl (lv_at hl 0 rfl) ?_
  refine lv_iload_n C.1 C.2.1 dJ1_charAt_3b067_7 rfl (lv_at hl 1 rfl) ?_
  refine va_tb C.1 C.2.1 (G.2.2.2.2.1.1.1 i hi).2.2.2 X.2 (vp_in_nI hj (by omega)) (by rw [nI_clamp (by omega)]) dJ1_charAt_3b067_8 ?_
  refine lv_sipush (v := 255) C.1 C.2.1 dJ1_charAt_3b067_9 (by decide) ?_
  refine lv_iand C.1 C.2.1 dJ1_charAt_3b067_12 ?_
  refine lv_i2c C.1 C.2.1 dJ1_charAt_3b067_13 (hb j (by omega)).1 ?_
  exact rtZc C X (hb j (by omega)).2 dJ1_charAt_3b067_14
theorem c_scha (l : Launch) (E : GE) {σ : Mem} {i : Nat} {k : Int32} {r : Int32} (h : scha σ i k = some r) : CtI l E yJ0_charAt_5068e cJ0_charAt_5068e 2 .char 8 [.ref (gK E i), .int k] σ r σ := by
  unfold scha at h
  by_cases hq : i < txN ∧ ¬ (k < 0 ∨ txL.getD i 0 ≤ k.toNatClampNeg)
  · rw [if_pos hq] at h
    obtain ⟨hi, hk⟩ := hq
    obtain ⟨hL, hb⟩ := tx_all i hi
    obtain ⟨j, hj, rfl⟩ := vp_in_of (n := txL.getD i 0) hk (by omega)
    rw [nI_clamp (by omega)] at h
    refine Met.ofW (cc := cJ0_charAt_5068e) (maxL := 2) (ret := some .char) (by decide) rfl ?_
    intro p e s m args below meth c s₁ B hml hv
    obtain ⟨rfl, G, X⟩ := start hv
    have C : Cx p s m [.ref (gK E i), .int (nI j)].toArray meth c cJ0_charAt_5068e (some .char) 2 "java/lang/String" := cxof B hml
    have hl := lv_entry [.ref (gK E i), .int (nI j)] (n := 2) (Nat.le_of_ble_eq_true rfl)
    rw [lg_entry_eq]
    generalize (lg_sl [.ref (gK E i), .int (nI j)] ++ List.replicate (2 - (lg_sl [.ref (gK E i), .int (nI j)]).length) Slot.unset).toArray = ls at hl ⊢
    have hl : lv_has ls 2 [(0, .ref (gK E i)), (1, .int (nI j))] := hl
    refine lv_aload_n C.1 C.2.1 dJ0_charAt_5068e_0 rfl (lv_at hl 0 rfl) ?_
    refine afI X (runV C G X q_isLatin1 k_855 k_856 k_854 (vk_recv G.2.2.2.2.1.1 hi X.2) (c_isLatin1 l E hi) rfl hl.1 rfl (Nat.le_of_ble_eq_true rfl) ⟨Nat.le_of_ble_eq_true rfl, Nat.le_of_ble_eq_true rfl⟩ ⟨Nat.le_of_ble_eq_true rfl, Nat.le_of_ble_eq_true rfl⟩ dJ0_charAt_5068e_1) (fun H locs X => ?_)
    refine lv_if_eq (tgt := 16) C.1 C.2.1 dJ0_charAt_5068e_4 (by decide) (fun z => absurd z (by decide)) (fun _ => ?_)
    refine lv_aload_n C.1 C.2.1 dJ0_charAt_5068e_7 rfl (lv_at hl 0 rfl) ?_
    refine gfva C G X hi dJ0_charAt_5068e_8 ?_
    refine lv_iload_n C.1 C.2.1 dJ0_charAt_5068e_11 rfl (lv_at hl 1 rfl) ?_
    refine afI X (runS C G X q_lcha k_859 k_858 (c_lcha l E hi hj) rfl hl.1 rfl (Nat.le_of_ble_eq_true rfl) ⟨Nat.le_of_ble_eq_true rfl, Nat.le_of_ble_eq_true rfl⟩ ⟨Nat.le_of_ble_eq_true rfl, Nat.le_of_ble_eq_true rfl⟩ dJ0_charAt_5068e_12) (fun H locs X => ?_)
    rw [← Option.some.inj h]
    exact rtZc C X (hb j (by omega)).2 dJ0_charAt_5068e_15
  · rw [if_neg hq] at h; cases h

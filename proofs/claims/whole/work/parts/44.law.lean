theorem kd_411 : kd 411 = 13 := by decide +kernel
theorem k_104 : Cond.initialized "PaneStreet" ∈ WU := wu 104 (by decide +kernel) (by decide +kernel)
theorem k_116 : Cond.initialized "PaneStreetModel" ∈ WU := wu 116 (by decide +kernel) (by decide +kernel)
theorem k_134 : Cond.classLink "PaneStreetLaw" 8 "PaneStreet" ∈ WU := wu 134 (by decide +kernel) (by decide +kernel)
theorem k_136 : Cond.methodLink "PaneStreetLaw" 123 ⟨"PaneStreet", "<init>", "()V"⟩ ∈ WU := wu 136 (by decide +kernel) (by decide +kernel)
theorem k_137 : Cond.instanceMethod ⟨"PaneStreet", "<init>", "()V"⟩ ∈ WU := wu 137 (by decide +kernel) (by decide +kernel)
theorem k_1645 : Cond.classLink "PaneStreetLaw" 124 "PaneStreetModel" ∈ WU := wu 1645 (by decide +kernel) (by decide +kernel)
theorem k_1647 : Cond.methodLink "PaneStreetLaw" 126 ⟨"PaneStreetModel", "<init>", "()V"⟩ ∈ WU := wu 1647 (by decide +kernel) (by decide +kernel)
theorem k_1648 : Cond.instanceMethod ⟨"PaneStreetModel", "<init>", "()V"⟩ ∈ WU := wu 1648 (by decide +kernel) (by decide +kernel)
theorem q_X11_init : CQ yX11_init cX11_init 1 none 0 := ⟨wu 138 (by decide +kernel) (by decide +kernel), wu 104 (by decide +kernel) (by decide +kernel), by decide +kernel, by decide +kernel, by decide +kernel⟩
theorem q_X12_init : CQ yX12_init cX12_init 1 none 0 := ⟨wu 1649 (by decide +kernel) (by decide +kernel), wu 116 (by decide +kernel) (by decide +kernel), by decide +kernel, by decide +kernel, by decide +kernel⟩

/-! the law: one record, all records, the start -/
def lw_at (k : Nat) (x1 x2 x3 x4 x5 : Int32) (σ : Mem) : Option (Bool × Mem) := match k with
  | 0 => lw_0 x1 x2 x3 x4 x5 σ
  | 1 => lw_1 x1 x2 x3 x4 x5 σ
  | 2 => lw_2 x1 x2 x3 x4 x5 σ
  | 3 => lw_3 x1 x2 x3 x4 x5 σ
  | 4 => lw_4 x1 x2 x3 x4 x5 σ
  | 5 => lw_5 x1 x2 x3 x4 x5 σ
  | 6 => lw_6 x1 x2 x3 x4 x5 σ
  | 7 => lw_7 x1 x2 x3 x4 x5 σ
  | 8 => lw_8 x1 x2 x3 x4 x5 σ
  | 9 => lw_9 x1 x2 x3 x4 x5 σ
  | 10 => lw_10 x1 x2 x3 x4 x5 σ
  | 11 => lw_11 x1 x2 x3 x4 x5 σ
  | 12 => lw_12 x1 x2 x3 x4 x5 σ
  | 13 => lw_13 x1 x2 x3 x4 x5 σ
  | 14 => lw_14 x1 x2 x3 x4 x5 σ
  | 15 => lw_15 x1 x2 x3 x4 x5 σ
  | 16 => lw_16 x1 x2 x3 x4 x5 σ
  | 17 => lw_17 x1 x2 x3 x4 x5 σ
  | 18 => lw_18 x1 x2 x3 x4 x5 σ
  | 19 => lw_19 x1 x2 x3 x4 x5 σ
  | 20 => lw_20 x1 x2 x3 x4 x5 σ
  | 21 => lw_21 x1 x2 x3 x4 x5 σ
  | 22 => lw_22 x1 x2 x3 x4 x5 σ
  | 23 => lw_23 x1 x2 x3 x4 x5 σ
  | 24 => lw_24 x1 x2 x3 x4 x5 σ
  | 25 => lw_25 x1 x2 x3 x4 x5 σ
  | 26 => lw_26 x1 x2 x3 x4 x5 σ
  | 27 => lw_27 x1 x2 x3 x4 x5 σ
  | 28 => lw_28 x1 x2 x3 x4 x5 σ
  | 29 => lw_29 x1 x2 x3 x4 x5 σ
  | 30 => lw_30 x1 x2 x3 x4 x5 σ
  | 31 => lw_31 x1 x2 x3 x4 x5 σ
  | 32 => lw_32 x1 x2 x3 x4 x5 σ
  | 33 => lw_33 x1 x2 x3 x4 x5 σ
  | 34 => lw_34 x1 x2 x3 x4 x5 σ
  | 35 => lw_35 x1 x2 x3 x4 x5 σ
  | 36 => lw_36 x1 x2 x3 x4 x5 σ
  | 37 => lw_37 x1 x2 x3 x4 x5 σ
  | 38 => lw_38 x1 x2 x3 x4 x5 σ
  | 39 => lw_39 x1 x2 x3 x4 x5 σ
  | 40 => lw_40 x1 x2 x3 x4 x5 σ
  | 41 => lw_41 x1 x2 x3 x4 x5 σ
  | 42 => lw_42 x1 x2 x3 x4 x5 σ
  | 43 => lw_43 x1 x2 x3 x4 x5 σ
  | 44 => lw_44 x1 x2 x3 x4 x5 σ
  | 45 => lw_45 x1 x2 x3 x4 x5 σ
  | 46 => lw_46 x1 x2 x3 x4 x5 σ
  | 47 => lw_47 x1 x2 x3 x4 x5 σ
  | 48 => lw_48 x1 x2 x3 x4 x5 σ
  | 49 => lw_49 x1 x2 x3 x4 x5 σ
  | 50 => lw_50 x1 x2 x3 x4 x5 σ
  | 51 => lw_51 x1 x2 x3 x4 x5 σ
  | 52 => lw_52 x1 x2 x3 x4 x5 σ
  | 53 => lw_53 x1 x2 x3 x4 x5 σ
  | _ + 54 => some (true, σ)
def lw_step (x0 x1 x2 x3 x4 x5 : Int32) (σ : Mem) : Option (Bool × Mem) := if (x0 &&& 63).toInt < 0 ∨ 53 < (x0 &&& 63).toInt then some (true, σ) else lw_at (x0 &&& 63).toNatClampNeg x1 x2 x3 x4 x5 σ
theorem lw_rng {x : Int32} (h : ¬ (x.toInt < 0 ∨ 53 < x.toInt)) : ∃ k, k < 54 ∧ x = nI k := by
  refine ⟨x.toInt.toNat, by omega, ?_⟩
  apply Int32.toInt_inj.mp
  rw [nI_toInt (by omega)]
  omega
section LAWM
variable {p : Program} {l : Launch} {e : Env} {s : State} {m : MethodId} {below : List Frame} {meth : Method} {c : Code} {H : Heap} {locs : List Loc} {cells slots : Nat} {Q : State → Prop} {ls : Array Slot} {E : GE} {σ σ' : Mem} {b L : Nat} {xs : Nat → Int32} {i : Int32} {args : Array Value}

set_option maxRecDepth 8000 in
theorem lwc (C : Cx p s m args meth c cL_law_ (some .boolean) 7 "PaneStreetLaw") (G : Gf E s) (hT : l.stackTraces = false) {x0 x1 x2 x3 x4 x5 : Int32} (h : lw_step x0 x1 x2 x3 x4 x5 σ = some (true, σ')) (X : Hx E σ s H locs) (hl : lv_has ls 7 (LwL E b i)) (hX : va_X b L xs s s.heap) (hb : b < s.heap.size) (hbA : ¬ Fr E b) (q0 : LwX L xs i x0) (q1 : LwX L xs (i + 1) x1) (q2 : LwX L xs (i + 2) x2) (q3 : LwX L xs (i + 3) x3) (q4 : LwX L xs (i + 4) x4) (q5 : LwX L xs (i + 5) x5) (hcc : cells ≤ 4000) (hss : slots ≤ 100000)
    (kk : ∀ (H1 : Heap) (locs1 : List Loc) (ls1 : Array Slot), lv_has ls1 7 (LwL E b i) → Hx E σ' s H1 locs1 → W p l e room_1 s m args below meth c H1 locs1 (cells + 4) (slots + 24) Q (F0 m 2792 ls1 [])) : W p l e room_1 s m args below meth c H locs cells slots Q (F0 m 33 ls []) := by
  have hl0 : lv_has ls 7 [(0, .ref b), (1, .ref (gB E + 0)), (2, .ref (gB E + 399)), (3, .ref (gB E + 411)), (4, .int i)] := hl
  refine lv_aload_n C.1 C.2.1 dL_law__33 rfl (lv_at hl0 0 rfl) ?_
  refine lv_iload C.1 C.2.1 dL_law__34 (lv_at hl0 4 rfl) ?_
  refine xld C X hX hb hbA q0 dL_law__36 ?_
  refine lv_bipush (v := 63) C.1 C.2.1 dL_law__37 (by decide) ?_
  refine lv_iand C.1 C.2.1 dL_law__39 ?_
  unfold lw_step at h
  by_cases hr : (x0 &&& 63).toInt < 0 ∨ 53 < (x0 &&& 63).toInt
  · replace h := ipos hr h
    cases h
    refine lv_tableOut (tgt := 2792) C.1 C.2.1 dL_law__40 (by omega) (by decide) ?_
    refine W.widen (k := cells + 4) (n := slots + 24) (by omega) (by omega) ?_
    exact kk H locs ls hl X
  · replace h := ineg hr h
    obtain ⟨k, hk, e9⟩ := lw_rng hr
    rw [e9, nI_clamp (by omega)] at h
    rw [e9]
    match k, hk, h with
    | 0, _, h => exact lv_tableIn (off := 232) (tgt := 272) C.1 C.2.1 dL_law__40 (by decide) (by decide) (by decide) (by decide) (lwc_0 C G hT h X hl hX hb hbA q1 q2 q3 q4 q5 hcc hss kk)
    | 1, _, h => exact lv_tableIn (off := 305) (tgt := 345) C.1 C.2.1 dL_law__40 (by decide) (by decide) (by decide) (by decide) (lwc_1 C G hT h X hl hX hb hbA q1 q2 q3 q4 q5 hcc hss kk)
    | 2, _, h => exact lv_tableIn (off := 330) (tgt := 370) C.1 C.2.1 dL_law__40 (by decide) (by decide) (by decide) (by decide) (lwc_2 C G hT h X hl hX hb hbA q1 q2 q3 q4 q5 hcc hss kk)
    | 3, _, h => exact lv_tableIn (off := 374) (tgt := 414) C.1 C.2.1 dL_law__40 (by decide) (by decide) (by decide) (by decide) (lwc_3 C G hT h X hl hX hb hbA q1 q2 q3 q4 q5 hcc hss kk)
    | 4, _, h => exact lv_tableIn (off := 418) (tgt := 458) C.1 C.2.1 dL_law__40 (by decide) (by decide) (by decide) (by decide) (lwc_4 C G hT h X hl hX hb hbA q1 q2 q3 q4 q5 hcc hss kk)
    | 5, _, h => exact lv_tableIn (off := 431) (tgt := 471) C.1 C.2.1 dL_law__40 (by decide) (by decide) (by decide) (by decide) (lwc_5 C G hT h X hl hX hb hbA q1 q2 q3 q4 q5 hcc hss kk)
    | 6, _, h => exact lv_tableIn (off := 499) (tgt := 539) C.1 C.2.1 dL_law__40 (by decide) (by decide) (by decide) (by decide) (lwc_6 C G hT h X hl hX hb hbA q1 q2 q3 q4 q5 hcc hss kk)
    | 7, _, h => exact lv_tableIn (off := 567) (tgt := 607) C.1 C.2.1 dL_law__40 (by decide) (by decide) (by decide) (by decide) (lwc_7 C G hT h X hl hX hb hbA q1 q2 q3 q4 q5 hcc hss kk)
    | 8, _, h => exact lv_tableIn (off := 635) (tgt := 675) C.1 C.2.1 dL_law__40 (by decide) (by decide) (by decide) (by decide) (lwc_8 C G hT h X hl hX hb hbA q1 q2 q3 q4 q5 hcc hss kk)
    | 9, _, h => exact lv_tableIn (off := 703) (tgt := 743) C.1 C.2.1 dL_law__40 (by decide) (by decide) (by decide) (by decide) (lwc_9 C G hT h X hl hX hb hbA q1 q2 q3 q4 q5 hcc hss kk)
    | 10, _, h => exact lv_tableIn (off := 778) (tgt := 818) C.1 C.2.1 dL_law__40 (by decide) (by decide) (by decide) (by decide) (lwc_10 C G hT h X hl hX hb hbA q1 q2 q3 q4 q5 hcc hss kk)
    | 11, _, h => exact lv_tableIn (off := 853) (tgt := 893) C.1 C.2.1 dL_law__40 (by decide) (by decide) (by decide) (by decide) (lwc_11 C G hT h X hl hX hb hbA q1 q2 q3 q4 q5 hcc hss kk)
    | 12, _, h => exact lv_tableIn (off := 909) (tgt := 949) C.1 C.2.1 dL_law__40 (by decide) (by decide) (by decide) (by decide) (lwc_12 C G hT h X hl hX hb hbA q1 q2 q3 q4 q5 hcc hss kk)
    | 13, _, h => exact lv_tableIn (off := 977) (tgt := 1017) C.1 C.2.1 dL_law__40 (by decide) (by decide) (by decide) (by decide) (lwc_13 C G hT h X hl hX hb hbA q1 q2 q3 q4 q5 hcc hss kk)
    | 14, _, h => exact lv_tableIn (off := 1033) (tgt := 1073) C.1 C.2.1 dL_law__40 (by decide) (by decide) (by decide) (by decide) (lwc_14 C G hT h X hl hX hb hbA q1 q2 q3 q4 q5 hcc hss kk)
    | 15, _, h => exact lv_tableIn (off := 1089) (tgt := 1129) C.1 C.2.1 dL_law__40 (by decide) (by decide) (by decide) (by decide) (lwc_15 C G hT h X hl hX hb hbA q1 q2 q3 q4 q5 hcc hss kk)
    | 16, _, h => exact lv_tableIn (off := 1157) (tgt := 1197) C.1 C.2.1 dL_law__40 (by decide) (by decide) (by decide) (by decide) (lwc_16 C G hT h X hl hX hb hbA q1 q2 q3 q4 q5 hcc hss kk)
    | 17, _, h => exact lv_tableIn (off := 1225) (tgt := 1265) C.1 C.2.1 dL_law__40 (by decide) (by decide) (by decide) (by decide) (lwc_17 C G hT h X hl hX hb hbA q1 q2 q3 q4 q5 hcc hss kk)
    | 18, _, h => exact lv_tableIn (off := 1305) (tgt := 1345) C.1 C.2.1 dL_law__40 (by decide) (by decide) (by decide) (by decide) (lwc_18 C G hT h X hl hX hb hbA q1 q2 q3 q4 q5 hcc hss kk)
    | 19, _, h => exact lv_tableIn (off := 1408) (tgt := 1448) C.1 C.2.1 dL_law__40 (by decide) (by decide) (by decide) (by decide) (lwc_19 C G hT h X hl hX hb hbA q1 q2 q3 q4 q5 hcc hss kk)
    | 20, _, h => exact lv_tableIn (off := 1476) (tgt := 1516) C.1 C.2.1 dL_law__40 (by decide) (by decide) (by decide) (by decide) (lwc_20 C G hT h X hl hX hb hbA q1 q2 q3 q4 q5 hcc hss kk)
    | 21, _, h => exact lv_tableIn (off := 1489) (tgt := 1529) C.1 C.2.1 dL_law__40 (by decide) (by decide) (by decide) (by decide) (lwc_21 C G hT h X hl hX hb hbA q1 q2 q3 q4 q5 hcc hss kk)
    | 22, _, h => exact lv_tableIn (off := 1502) (tgt := 1542) C.1 C.2.1 dL_law__40 (by decide) (by decide) (by decide) (by decide) (lwc_22 C G hT h X hl hX hb hbA q1 q2 q3 q4 q5 hcc hss kk)
    | 23, _, h => exact lv_tableIn (off := 1515) (tgt := 1555) C.1 C.2.1 dL_law__40 (by decide) (by decide) (by decide) (by decide) (lwc_23 C G hT h X hl hX hb hbA q1 q2 q3 q4 q5 hcc hss kk)
    | 24, _, h => exact lv_tableIn (off := 1599) (tgt := 1639) C.1 C.2.1 dL_law__40 (by decide) (by decide) (by decide) (by decide) (lwc_24 C G hT h X hl hX hb hbA q1 q2 q3 q4 q5 hcc hss kk)
    | 25, _, h => exact lv_tableIn (off := 1612) (tgt := 1652) C.1 C.2.1 dL_law__40 (by decide) (by decide) (by decide) (by decide) (lwc_25 C G hT h X hl hX hb hbA q1 q2 q3 q4 q5 hcc hss kk)
    | 26, _, h => exact lv_tableIn (off := 1625) (tgt := 1665) C.1 C.2.1 dL_law__40 (by decide) (by decide) (by decide) (by decide) (lwc_26 C G hT h X hl hX hb hbA q1 q2 q3 q4 q5 hcc hss kk)
    | 27, _, h => exact lv_tableIn (off := 1638) (tgt := 1678) C.1 C.2.1 dL_law__40 (by decide) (by decide) (by decide) (by decide) (lwc_27 C G hT h X hl hX hb hbA q1 q2 q3 q4 q5 hcc hss kk)
    | 28, _, h => exact lv_tableIn (off := 1706) (tgt := 1746) C.1 C.2.1 dL_law__40 (by decide) (by decide) (by decide) (by decide) (lwc_28 C G hT h X hl hX hb hbA q1 q2 q3 q4 q5 hcc hss kk)
    | 29, _, h => exact lv_tableIn (off := 1719) (tgt := 1759) C.1 C.2.1 dL_law__40 (by decide) (by decide) (by decide) (by decide) (lwc_29 C G hT h X hl hX hb hbA q1 q2 q3 q4 q5 hcc hss kk)
    | 30, _, h => exact lv_tableIn (off := 1763) (tgt := 1803) C.1 C.2.1 dL_law__40 (by decide) (by decide) (by decide) (by decide) (lwc_30 C G hT h X hl hX hb hbA q1 q2 q3 q4 q5 hcc hss kk)
    | 31, _, h => exact lv_tableIn (off := 1807) (tgt := 1847) C.1 C.2.1 dL_law__40 (by decide) (by decide) (by decide) (by decide) (lwc_31 C G hT h X hl hX hb hbA q1 q2 q3 q4 q5 hcc hss kk)
    | 32, _, h => exact lv_tableIn (off := 1870) (tgt := 1910) C.1 C.2.1 dL_law__40 (by decide) (by decide) (by decide) (by decide) (lwc_32 C G hT h X hl hX hb hbA q1 q2 q3 q4 q5 hcc hss kk)
    | 33, _, h => exact lv_tableIn (off := 1883) (tgt := 1923) C.1 C.2.1 dL_law__40 (by decide) (by decide) (by decide) (by decide) (lwc_33 C G hT h X hl hX hb hbA q1 q2 q3 q4 q5 hcc hss kk)
    | 34, _, h => exact lv_tableIn (off := 1939) (tgt := 1979) C.1 C.2.1 dL_law__40 (by decide) (by decide) (by decide) (by decide) (lwc_34 C G hT h X hl hX hb hbA q1 q2 q3 q4 q5 hcc hss kk)
    | 35, _, h => exact lv_tableIn (off := 1983) (tgt := 2023) C.1 C.2.1 dL_law__40 (by decide) (by decide) (by decide) (by decide) (lwc_35 C G hT h X hl hX hb hbA q1 q2 q3 q4 q5 hcc hss kk)
    | 36, _, h => exact lv_tableIn (off := 2051) (tgt := 2091) C.1 C.2.1 dL_law__40 (by decide) (by decide) (by decide) (by decide) (lwc_36 C G hT h X hl hX hb hbA q1 q2 q3 q4 q5 hcc hss kk)
    | 37, _, h => exact lv_tableIn (off := 2119) (tgt := 2159) C.1 C.2.1 dL_law__40 (by decide) (by decide) (by decide) (by decide) (lwc_37 C G hT h X hl hX hb hbA q1 q2 q3 q4 q5 hcc hss kk)
    | 38, _, h => exact lv_tableIn (off := 2187) (tgt := 2227) C.1 C.2.1 dL_law__40 (by decide) (by decide) (by decide) (by decide) (lwc_38 C G hT h X hl hX hb hbA q1 q2 q3 q4 q5 hcc hss kk)
    | 39, _, h => exact lv_tableIn (off := 2200) (tgt := 2240) C.1 C.2.1 dL_law__40 (by decide) (by decide) (by decide) (by decide) (lwc_39 C G hT h X hl hX hb hbA q1 q2 q3 q4 q5 hcc hss kk)
    | 40, _, h => exact lv_tableIn (off := 2213) (tgt := 2253) C.1 C.2.1 dL_law__40 (by decide) (by decide) (by decide) (by decide) (lwc_40 C G hT h X hl hX hb hbA q1 q2 q3 q4 q5 hcc hss kk)
    | 41, _, h => exact lv_tableIn (off := 2226) (tgt := 2266) C.1 C.2.1 dL_law__40 (by decide) (by decide) (by decide) (by decide) (lwc_41 C G hT h X hl hX hb hbA q1 q2 q3 q4 q5 hcc hss kk)
    | 42, _, h => exact lv_tableIn (off := 2239) (tgt := 2279) C.1 C.2.1 dL_law__40 (by decide) (by decide) (by decide) (by decide) (lwc_42 C G hT h X hl hX hb hbA q1 q2 q3 q4 q5 hcc hss kk)
    | 43, _, h => exact lv_tableIn (off := 2252) (tgt := 2292) C.1 C.2.1 dL_law__40 (by decide) (by decide) (by decide) (by decide) (lwc_43 C G hT h X hl hX hb hbA q1 q2 q3 q4 q5 hcc hss kk)
    | 44, _, h => exact lv_tableIn (off := 2265) (tgt := 2305) C.1 C.2.1 dL_law__40 (by decide) (by decide) (by decide) (by decide) (lwc_44 C G hT h X hl hX hb hbA q1 q2 q3 q4 q5 hcc hss kk)
    | 45, _, h => exact lv_tableIn (off := 2345) (tgt := 2385) C.1 C.2.1 dL_law__40 (by decide) (by decide) (by decide) (by decide) (lwc_45 C G hT h X hl hX hb hbA q1 q2 q3 q4 q5 hcc hss kk)
    | 46, _, h => exact lv_tableIn (off := 2429) (tgt := 2469) C.1 C.2.1 dL_law__40 (by decide) (by decide) (by decide) (by decide) (lwc_46 C G hT h X hl hX hb hbA q1 q2 q3 q4 q5 hcc hss kk)
    | 47, _, h => exact lv_tableIn (off := 2513) (tgt := 2553) C.1 C.2.1 dL_law__40 (by decide) (by decide) (by decide) (by decide) (lwc_47 C G hT h X hl hX hb hbA q1 q2 q3 q4 q5 hcc hss kk)
    | 48, _, h => exact lv_tableIn (off := 2597) (tgt := 2637) C.1 C.2.1 dL_law__40 (by decide) (by decide) (by decide) (by decide) (lwc_48 C G hT h X hl hX hb hbA q1 q2 q3 q4 q5 hcc hss kk)
    | 49, _, h => exact lv_tableIn (off := 2665) (tgt := 2705) C.1 C.2.1 dL_law__40 (by decide) (by decide) (by decide) (by decide) (lwc_49 C G hT h X hl hX hb hbA q1 q2 q3 q4 q5 hcc hss kk)
    | 50, _, h => exact lv_tableIn (off := 2690) (tgt := 2730) C.1 C.2.1 dL_law__40 (by decide) (by decide) (by decide) (by decide) (lwc_50 C G hT h X hl hX hb hbA q1 q2 q3 q4 q5 hcc hss kk)
    | 51, _, h => exact lv_tableIn (off := 2703) (tgt := 2743) C.1 C.2.1 dL_law__40 (by decide) (by decide) (by decide) (by decide) (lwc_51 C G hT h X hl hX hb hbA q1 q2 q3 q4 q5 hcc hss kk)
    | 52, _, h => exact lv_tableIn (off := 2714) (tgt := 2754) C.1 C.2.1 dL_law__40 (by decide) (by decide) (by decide) (by decide) (lwc_52 C G hT h X hl hX hb hbA q1 q2 q3 q4 q5 hcc hss kk)
    | 53, _, h => exact lv_tableIn (off := 2727) (tgt := 2767) C.1 C.2.1 dL_law__40 (by decide) (by decide) (by decide) (by decide) (lwc_53 C G hT h X hl hX hb hbA q1 q2 q3 q4 q5 hcc hss kk)
    | n + 54, hk, _ => exact absurd hk (by omega)
theorem nI_sub6 {L j : Nat} (hL : L ≤ 3072) (hj : 6 * j ≤ 3100) (h : ¬ Int32.ofNat L - 6 < nI (6 * j)) : 6 * j + 6 ≤ L := by
  refine Nat.le_of_not_lt fun h2 => h ?_
  by_cases h6 : 6 ≤ L
  · have e : Int32.ofNat L - 6 = nI (L - 6) := by
      have h3 := nI_add (L - 6) 6
      rw [show L - 6 + 6 = L by omega] at h3
      show nI L - nI 6 = _
      rw [← h3]
      exact Int32.add_sub_cancel _ _
    rw [e]
    exact nI_lt (by omega) (by omega)
  · have h9 : ∀ L, L < 6 → Int32.ofNat L - 6 < 0 := by decide +kernel
    exact Int32.lt_of_lt_of_le (h9 L (by omega)) (nI_pos' (by omega))
theorem lwx {L j k : Nat} {xs : Nat → Int32} (hL : L ≤ 3072) (h : 6 * j + k < L) : LwX L xs (nI (6 * j) + nI k) (xs (6 * j + k)) := by
  rw [LwX, nI_add]
  exact ⟨nI_in h (by omega), by rw [nI_clamp (by omega)]⟩
theorem lw_loop {Inv : Nat → Mem → Prop} (hI : ∀ j σ x0 x1 x2 x3 x4 x5, j < 512 → Inv j σ → ∃ σ', lw_step x0 x1 x2 x3 x4 x5 σ = some (true, σ') ∧ Inv (j + 1) σ') (C : Cx p s m #[Value.ref b] meth c cL_law_ (some .boolean) 7 "PaneStreetLaw") (hcode : c.code = code) (G : Gf E s) (hT : l.stackTraces = false) (hX : va_X b L xs s s.heap) (hb : b < s.heap.size) (hgB : gB E = s.heap.size) (hL : L ≤ 3072) : ∀ (t j : Nat), t + j = 513 → 6 * j ≤ L → ∀ (σ : Mem) (H : Heap) (locs : List Loc) (ls : Array Slot), Inv j σ → Hx E σ s H locs → lv_has ls 7 (LwL E b (nI (6 * j))) → W p l e room_1 s m #[Value.ref b] below meth c H locs (412 + 4 * j) (30000 + 24 * j) (lw_Z below #[Value.ref b] s) (F0 m 23 ls []) := by
  intro t
  induction t with
  | zero => intro j hj h6; exact absurd h6 (by omega)
  | succ t ih =>
    intro j hj h6 σ H locs ls hi X hl
    have hbA : ¬ Fr E b := fun h => Nat.not_le.mpr hb (by rw [← hgB]; exact h)
    have hl0 : lv_has ls 7 [(0, .ref b), (1, .ref (gB E + 0)), (2, .ref (gB E + 399)), (3, .ref (gB E + 411)), (4, .int (nI (6 * j)))] := hl
    refine lv_iload C.1 C.2.1 dL_law__23 (lv_at hl0 4 rfl) ?_
    refine lv_aload_n C.1 C.2.1 dL_law__25 rfl (lv_at hl0 0 rfl) ?_
    refine va_slen C.1 C.2.1 hX hb hbA X.2 dL_law__26 ?_
    refine lv_bipush (v := 6) C.1 C.2.1 dL_law__27 (by decide) ?_
    refine lv_isub C.1 C.2.1 dL_law__29 ?_
    refine lv_icmp_gt (tgt := 2798) C.1 C.2.1 dL_law__30 (by decide) (fun _ => ?_) (fun hn => ?_)
    · refine lv_iconst (v := 1) C.1 C.2.1 dL_law__2798 (by decide) ?_
      refine W.widen (k := 601024) (n := 7293034) (by omega) (by omega) ?_
      have hF : ∀ q ∈ locs, s.heap.size ≤ q.base := fun q hq => by rw [← hgB]; exact X.2.2.2 q hq
      have := W.forget (locs := []) (L := locs) hF (lw_ret (H := H) (ls := ls) (below := below) (s := s) (b := b) (l := l) (e := e) (m := m) C.1 hcode C.2.2.1 C.lk (pc := 2799) dL_law__2799)
      rw [List.nil_append] at this
      exact this
    · have h7 := nI_sub6 hL (by omega) hn
      obtain ⟨σ', e1, hi'⟩ := hI j σ (xs (6 * j)) (xs (6 * j + 1)) (xs (6 * j + 2)) (xs (6 * j + 3)) (xs (6 * j + 4)) (xs (6 * j + 5)) (by omega) hi
      refine lwc C G hT e1 X hl hX hb hbA ⟨nI_in (by omega) (by omega), by rw [nI_clamp (by omega)]⟩ (lwx (k := 1) hL (by omega)) (lwx (k := 2) hL (by omega)) (lwx (k := 3) hL (by omega)) (lwx (k := 4) hL (by omega)) (lwx (k := 5) hL (by omega)) (by omega) (by omega) (fun H locs ls hl X => ?_)
      have hl1 : lv_has ls 7 [(0, .ref b), (1, .ref (gB E + 0)), (2, .ref (gB E + 399)), (3, .ref (gB E + 411)), (4, .int (nI (6 * j)))] := hl
      refine lv_iinc (v := nI (6 * (j + 1))) (lv' := [(4, .int (nI (6 * (j + 1)))), (0, .ref b), (1, .ref (gB E + 0)), (2, .ref (gB E + 399)), (3, .ref (gB E + 411))]) C.1 C.2.1 dL_law__2792 hl1 (k := 4) rfl (by rw [show 6 * (j + 1) = 6 * j + 6 by omega]; exact nI_add (6 * j) 6) (by decide) rfl (fun ls hl => ?_)
      refine lv_goto (tgt := 23) C.1 C.2.1 dL_law__2795 (by decide) ?_
      refine W.cs (cells' := 412 + 4 * (j + 1)) (slots' := 30000 + 24 * (j + 1)) (by omega) (by omega) ?_
      exact ih (j + 1) (by omega) (by omega) σ' H locs ls hi' X (lw_sub hl (by simp [LwL]))

theorem ln_411 : ln 411 = 1 := by decide +kernel
theorem cnewz {cc : ByteArray} {nL pc : Nat} {rest : List Value} {R : Room} {f : Nat → va_E} {n : Nat} {own : String} {ret : Option FieldType} (C : Cx p s m args meth c cc ret nL own) (G : Gf E s) (X : Hc E f n s H locs) (hz : H.size = gB E + n) {Cn : String} {T : u_T} {N ci index : Nat} (hin : ∀ w ∈ u_ws Cn T N, w ∈ WU) (ty : Nat → FieldType) (hty : ∀ k, k < N → parseFieldDescriptor (T k).2.2.1 = some (ty k)) (hcl : Cond.classLink own index Cn ∈ WU) (hinst : Cond.instantiable Cn N ∈ WU) (hini : Cond.initialized Cn ∈ WU) (hc : vwCl[ci]? = some (Cn, T, N)) {fs : List Value} (hfs : ∀ j, j < N → defaultValue (ty j) = vp_V fs j) (hcells : cells + 1 ≤ R.cells) (hslots : slots + N ≤ R.slots) (d : decode cc pc = .ok (.new index, 3))
    (kk : ∀ H1 : Heap, Hc E (va_up f n (.inr (ci, fs))) (n + 1) s H1 locs → W p l e R s m args below meth c H1 locs (cells + 1) (slots + N) Q (F0 m (pc + 3) ls (.ref (gB E + n) :: rest))) : W p l e R s m args below meth c H locs cells slots Q (F0 m pc ls rest) := by
  have hKn := G.K.1 ci _ hc
  refine W.newcK C.1 C.2.1 C.hown (C.ts _ hcl) (C.ts _ hinst) (C.ts _ hini) rfl d hcells hslots hKn.2.1 hz fun H1 kC hkC e1 z1 o1 => kk H1 ⟨cwd_P.mpr fun k hk => ?_, Nat.le_trans X.2.1 (by omega), fun x h1 h2 => (o1 x (by have := X.2.1; omega)).trans (X.2.2.1 x h1 h2), X.2.2.2⟩
  by_cases hkn : k = n
  · subst hkn
    rw [va_up, if_pos rfl]
    exact ⟨_, hc, (u_born ty C.ts hin hKn hkC e1 hty).to hfs⟩
  · rw [va_up, if_neg hkn]
    exact (cwd_P.mp X.1 k (by omega)).kept (o1 _ (by show gB E + k < gB E + n; omega))
def z1 : Mem := st (st z0 400 1 (-1)) 400 10 1
theorem z1_n {k : Nat} (h : k ≠ 400) : z1 k = z0 k := by rw [z1, st_n h, st_n h]
theorem z1_m : z1 400 = upd (upd (zr 0) 1 (-1)) 10 1 := by
  rw [z1, st_s, st_s]
  show upd (upd (zr (kd 400)) 1 (-1)) 10 1 = _
  rw [kd_400]
theorem hx_of {f : Nat → va_E} (X : Hc E (va_up (fi1 E (va_up (fi E 0 399 f) 399 (.inr (9, [.int 0, .null, .null, .int 0, .null, .null, .int 0, .null, .int 0, .int 0, .int 0, .int 0, .int 0, .int 0, .null, .int 0, .int 0, .int 0, .null, .null, .null, .null, .null])))) 411 (.inl (gT E 3, 1, .inr (.inl (fun _ => 0))))) 412 s H locs) : Hx E z1 s H locs := by
  refine ⟨fun k q hq => ?_, X.2⟩
  obtain ⟨hk, rfl⟩ := ce_q hq
  have h1 := cwd_P.mp X.1 k hk
  have e9 : va_up (fi1 E (va_up (fi E 0 399 f) 399 (.inr (9, [.int 0, .null, .null, .int 0, .null, .null, .int 0, .null, .int 0, .int 0, .int 0, .int 0, .int 0, .int 0, .null, .int 0, .int 0, .int 0, .null, .null, .null, .null, .null])))) 411 (.inl (gT E 3, 1, .inr (.inl (fun _ => 0)))) k = cellOf E z1 k := by
    by_cases h411 : k = 411
    · subst h411
      rw [va_up, if_pos rfl, cellOf, kd411, z1_n (by decide)]
      show _ = cell0 E 411 (zr (kd 411)) 13
      rw [kd411]
      show _ = Sum.inl (gT E 3, ln 411, _)
      rw [ln_411]
      rfl
    · rw [va_up, if_neg h411, fi1]
      by_cases h400 : k = 400
      · subst h400
        rw [va_up, if_pos rfl, cellOf, kd_400, z1_m]
        show _ = Sum.inl (gT E 0, ln 400, _)
        rw [ln_400]
      · rw [va_up, if_neg h400, cellOf, z1_n h400]
        show _ = cellOf E z0 k
        by_cases h3 : 399 ≤ k
        · rw [fi, if_pos ⟨h3, show k < 399 + 12 by have : k < 412 := hk; omega⟩]
        · rw [fi, if_neg (by omega), va_up, if_neg (by omega), fi, if_pos (by omega)]
  rw [e9] at h1
  exact h1
set_option maxRecDepth 20000 in
theorem law_of {Inv : Nat → Mem → Prop} (h0 : Inv 0 z1) (hI : ∀ j σ x0 x1 x2 x3 x4 x5, j < 512 → Inv j σ → ∃ σ', lw_step x0 x1 x2 x3 x4 x5 σ = some (true, σ') ∧ Inv (j + 1) σ') (hT : l.stackTraces = false) (hL : L ≤ 3072) (C0 : lw_At p s m meth c b L xs) : W p l e room_1 s m #[Value.ref b] below meth c s.heap [] 0 0 (lw_Z below #[Value.ref b] s) (entryFrame m ([Value.ref b] : List Value).toArray 7) := by
  obtain ⟨hexec, hcode, hret, hml, hown, hts, hX, hbl, hlk, hnv⟩ := C0
  obtain ⟨E, hgB, G, hA, hB⟩ := entry hts (fun w hw => flat_of_before _ hnv w hw)
  have C : Cx p s m #[Value.ref b] meth c cL_law_ (some .boolean) 7 "PaneStreetLaw" := ⟨hexec, hcode, hret, hml, hown, fun w hw => hts w (List.mem_filter.mp hw).1, hlk⟩
  have hl := lv_entry [.ref b] (n := 7) (Nat.le_of_ble_eq_true rfl)
  rw [lg_entry_eq]
  generalize (lg_sl [.ref b] ++ List.replicate (7 - (lg_sl [.ref b]).length) Slot.unset).toArray = ls at hl ⊢
  have hl : lv_has ls 7 [(0, .ref b)] := hl
  have X : Hc E (fun _ => .inr (0, [])) 0 s s.heap [] := ⟨cwd_P.mpr fun k hk => absurd hk (Nat.not_lt_zero k), va_S.rf⟩
  have hs0 : s.heap.size = gB E + 0 := hgB.symm
  refine cnewz C G X hs0 inX11 tyX11 tyX11_ok k_134 k_135 k_104 (show vwCl[8]? = some (RX11, TX11, 12) from rfl) (fs := [.null, .null, .null, .null, .null, .null, .null, .int 0, .null, .null, .null, .null]) (fun j hj => by match j, hj with | 0, _ => rfl | 1, _ => rfl | 2, _ => rfl | 3, _ => rfl | 4, _ => rfl | 5, _ => rfl | 6, _ => rfl | 7, _ => rfl | 8, _ => rfl | 9, _ => rfl | 10, _ => rfl | 11, _ => rfl | j + 12, h => exact absurd h (by omega)) (Nat.le_of_ble_eq_true rfl) (Nat.le_of_ble_eq_true rfl) dL_law__0 (fun H X => ?_)
  refine lv_dup C.1 C.2.1 dL_law__3 rfl ?_
  refine ccall C G hA hB X (n := 1) hs0 (by omega) (by omega) q_X11_init rfl k_137 k_136 (n_X11 l E (by rw [va_up, if_pos rfl])) rfl hl.1 rfl (Nat.le_of_ble_eq_true rfl) ⟨Nat.le_of_ble_eq_true rfl, Nat.le_of_ble_eq_true rfl⟩ ⟨Nat.le_of_ble_eq_true rfl, Nat.le_of_ble_eq_true rfl⟩ dL_law__4 (fun H locs X => ?_)
  have e1 : fi E 0 399 (va_up (fun _ => .inr (0, [])) 0 (.inr (8, [.null, .null, .null, .null, .null, .null, .null, .int 0, .null, .null, .null, .null]))) = fi E 0 399 (fun _ => .inr (0, [])) := by
    funext j
    unfold fi va_up
    by_cases hj : 0 ≤ j ∧ j < 0 + 399
    · rw [if_pos hj, if_pos hj]
    · rw [if_neg hj, if_neg hj, if_neg (by omega)]
  rw [e1] at X
  refine lv_astore_n (lv' := [(1, .ref (gB E + 0)), (0, .ref b)]) C.1 C.2.1 dL_law__7 rfl hl (by decide) rfl (fun ls hl => ?_)
  refine cnew C G X (n := 399) hs0 (by omega) (by omega) inX12 tyX12 tyX12_ok k_1645 k_1646 k_116 (show vwCl[9]? = some (RX12, TX12, 23) from rfl) (fs := [.int 0, .null, .null, .int 0, .null, .null, .int 0, .null, .int 0, .int 0, .int 0, .int 0, .int 0, .int 0, .null, .int 0, .int 0, .int 0, .null, .null, .null, .null, .null]) (fun j hj => by match j, hj with | 0, _ => rfl | 1, _ => rfl | 2, _ => rfl | 3, _ => rfl | 4, _ => rfl | 5, _ => rfl | 6, _ => rfl | 7, _ => rfl | 8, _ => rfl | 9, _ => rfl | 10, _ => rfl | 11, _ => rfl | 12, _ => rfl | 13, _ => rfl | 14, _ => rfl | 15, _ => rfl | 16, _ => rfl | 17, _ => rfl | 18, _ => rfl | 19, _ => rfl | 20, _ => rfl | 21, _ => rfl | 22, _ => rfl | j + 23, h => exact absurd h (by omega)) (Nat.le_of_ble_eq_true rfl) (Nat.le_of_ble_eq_true rfl) dL_law__8 (fun H X => ?_)
  refine lv_dup C.1 C.2.1 dL_law__11 rfl ?_
  refine ccall C G hA hB X (n := 400) hs0 (by omega) (by omega) q_X12_init rfl k_1648 k_1647 (n_X12 l E (by rw [va_up, if_pos rfl])) rfl hl.1 rfl (Nat.le_of_ble_eq_true rfl) ⟨Nat.le_of_ble_eq_true rfl, Nat.le_of_ble_eq_true rfl⟩ ⟨Nat.le_of_ble_eq_true rfl, Nat.le_of_ble_eq_true rfl⟩ dL_law__12 (fun H locs X => ?_)
  refine lv_astore_n (lv' := [(2, .ref (gB E + 399)), (1, .ref (gB E + 0)), (0, .ref b)]) C.1 C.2.1 dL_law__15 rfl hl (by decide) rfl (fun ls hl => ?_)
  refine lv_iconst (v := 1) C.1 C.2.1 dL_law__16 (by decide) ?_
  refine cnewL C G X (n := 411) hs0 (by omega) (by omega) k_2296 (N := 1) (by decide) (by omega) (Nat.le_of_ble_eq_true rfl) (Nat.le_of_ble_eq_true rfl) dL_law__17 (fun H X => ?_)
  refine lv_astore_n (lv' := [(3, .ref (gB E + 411)), (2, .ref (gB E + 399)), (1, .ref (gB E + 0)), (0, .ref b)]) C.1 C.2.1 dL_law__19 rfl hl (by decide) rfl (fun ls hl => ?_)
  refine lv_iconst (v := 0) C.1 C.2.1 dL_law__20 (by decide) ?_
  refine lv_istore (lv' := [(4, .int (nI 0)), (3, .ref (gB E + 411)), (2, .ref (gB E + 399)), (1, .ref (gB E + 0)), (0, .ref b)]) C.1 C.2.1 dL_law__21 hl (by decide) rfl (fun ls hl => ?_)
  refine W.widen (k := 412 + 4 * 0) (n := 30000 + 24 * 0) (Nat.le_of_ble_eq_true rfl) (Nat.le_of_ble_eq_true rfl) ?_
  exact lw_loop hI C hcode G hT hX hbl hgB hL 513 0 rfl (Nat.zero_le _) z1 H locs ls h0 (hx_of X) (lw_sub hl (by simp [LwL]))
end LAWM

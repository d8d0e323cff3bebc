theorem k_105 : Cond.initialized "PaneStreet$Text" ∈ WU := wu 105 (by decide +kernel) (by decide +kernel)
theorem k_106 : Cond.initialized "PaneStreet$Row" ∈ WU := wu 106 (by decide +kernel) (by decide +kernel)
theorem k_108 : Cond.initialized "PaneStreet$Street" ∈ WU := wu 108 (by decide +kernel) (by decide +kernel)
theorem k_109 : Cond.initialized "PaneStreet$Law" ∈ WU := wu 109 (by decide +kernel) (by decide +kernel)
theorem k_112 : Cond.initialized "PaneStreet$History" ∈ WU := wu 112 (by decide +kernel) (by decide +kernel)
theorem k_113 : Cond.initialized "PaneStreet$Clock" ∈ WU := wu 113 (by decide +kernel) (by decide +kernel)
theorem k_114 : Cond.initialized "PaneStreet$Net" ∈ WU := wu 114 (by decide +kernel) (by decide +kernel)
theorem k_115 : Cond.initialized "PaneStreet$Favours" ∈ WU := wu 115 (by decide +kernel) (by decide +kernel)
theorem k_139 : Cond.methodLink "PaneStreet" 1 ⟨"java/lang/Object", "<init>", "()V"⟩ ∈ WU := wu 139 (by decide +kernel) (by decide +kernel)
theorem k_140 : Cond.instanceMethod ⟨"java/lang/Object", "<init>", "()V"⟩ ∈ WU := wu 140 (by decide +kernel) (by decide +kernel)
theorem k_141 : Cond.code ⟨"java/lang/Object", "<init>", "()V"⟩ object_method_1_code 1 none ∈ WU := wu 141 (by decide +kernel) (by decide +kernel)
theorem k_142 : Cond.classLink "PaneStreet" 7 "PaneStreet$Text" ∈ WU := wu 142 (by decide +kernel) (by decide +kernel)
theorem k_143 : Cond.instantiable "PaneStreet$Text" 7 ∈ WU := wu 143 (by decide +kernel) (by decide +kernel)
theorem k_145 : Cond.instanceMethod ⟨"PaneStreet$Text", "<init>", "()V"⟩ ∈ WU := wu 145 (by decide +kernel) (by decide +kernel)
theorem k_147 : Cond.methodLink "PaneStreet$Text" 3 ⟨"java/lang/Object", "<init>", "()V"⟩ ∈ WU := wu 147 (by decide +kernel) (by decide +kernel)
theorem k_148 : Cond.classLink "PaneStreet$Text" 9 "PaneStreet$Row" ∈ WU := wu 148 (by decide +kernel) (by decide +kernel)
theorem k_149 : Cond.instantiable "PaneStreet$Row" 1 ∈ WU := wu 149 (by decide +kernel) (by decide +kernel)
theorem k_150 : Cond.methodLink "PaneStreet$Text" 11 ⟨"PaneStreet$Row", "<init>", "(I)V"⟩ ∈ WU := wu 150 (by decide +kernel) (by decide +kernel)
theorem k_151 : Cond.instanceMethod ⟨"PaneStreet$Row", "<init>", "(I)V"⟩ ∈ WU := wu 151 (by decide +kernel) (by decide +kernel)
theorem k_153 : Cond.methodLink "PaneStreet$Row" 1 ⟨"java/lang/Object", "<init>", "()V"⟩ ∈ WU := wu 153 (by decide +kernel) (by decide +kernel)
theorem k_154 : Cond.methodLink "PaneStreet$Row" 7 ⟨"java/lang/Math", "max", "(II)I"⟩ ∈ WU := wu 154 (by decide +kernel) (by decide +kernel)
theorem k_161 : Cond.arrayClass FieldType.int ∈ WU := wu 161 (by decide +kernel) (by decide +kernel)
theorem k_162 : Cond.classLink "PaneStreet$Text" 20 "PaneStreet$Term" ∈ WU := wu 162 (by decide +kernel) (by decide +kernel)
theorem k_1650 : Cond.methodLink "PaneStreetModel" 1 ⟨"java/lang/Object", "<init>", "()V"⟩ ∈ WU := wu 1650 (by decide +kernel) (by decide +kernel)
theorem k_190 : Cond.classLink "PaneStreet" 16 "PaneStreet$Street" ∈ WU := wu 190 (by decide +kernel) (by decide +kernel)
theorem k_191 : Cond.instantiable "PaneStreet$Street" 20 ∈ WU := wu 191 (by decide +kernel) (by decide +kernel)
theorem k_193 : Cond.instanceMethod ⟨"PaneStreet$Street", "<init>", "()V"⟩ ∈ WU := wu 193 (by decide +kernel) (by decide +kernel)
theorem k_195 : Cond.methodLink "PaneStreet$Street" 3 ⟨"java/lang/Object", "<init>", "()V"⟩ ∈ WU := wu 195 (by decide +kernel) (by decide +kernel)
theorem k_196 : Cond.classLink "PaneStreet$Street" 15 "PaneStreet$Row" ∈ WU := wu 196 (by decide +kernel) (by decide +kernel)
theorem k_197 : Cond.methodLink "PaneStreet$Street" 17 ⟨"PaneStreet$Row", "<init>", "(I)V"⟩ ∈ WU := wu 197 (by decide +kernel) (by decide +kernel)
theorem k_304 : Cond.classLink "PaneStreet" 29 "PaneStreet$Law" ∈ WU := wu 304 (by decide +kernel) (by decide +kernel)
theorem k_305 : Cond.instantiable "PaneStreet$Law" 8 ∈ WU := wu 305 (by decide +kernel) (by decide +kernel)
theorem k_307 : Cond.instanceMethod ⟨"PaneStreet$Law", "<init>", "()V"⟩ ∈ WU := wu 307 (by decide +kernel) (by decide +kernel)
theorem k_309 : Cond.methodLink "PaneStreet$Law" 3 ⟨"java/lang/Object", "<init>", "()V"⟩ ∈ WU := wu 309 (by decide +kernel) (by decide +kernel)
theorem k_310 : Cond.classLink "PaneStreet$Law" 15 "PaneStreet$Row" ∈ WU := wu 310 (by decide +kernel) (by decide +kernel)
theorem k_311 : Cond.methodLink "PaneStreet$Law" 17 ⟨"PaneStreet$Row", "<init>", "(I)V"⟩ ∈ WU := wu 311 (by decide +kernel) (by decide +kernel)
theorem k_340 : Cond.classLink "PaneStreet" 42 "PaneStreet$History" ∈ WU := wu 340 (by decide +kernel) (by decide +kernel)
theorem k_341 : Cond.instantiable "PaneStreet$History" 3 ∈ WU := wu 341 (by decide +kernel) (by decide +kernel)
theorem k_342 : Cond.methodLink "PaneStreet" 44 ⟨"PaneStreet$History", "<init>", "()V"⟩ ∈ WU := wu 342 (by decide +kernel) (by decide +kernel)
theorem k_343 : Cond.instanceMethod ⟨"PaneStreet$History", "<init>", "()V"⟩ ∈ WU := wu 343 (by decide +kernel) (by decide +kernel)
theorem k_345 : Cond.methodLink "PaneStreet$History" 3 ⟨"java/lang/Object", "<init>", "()V"⟩ ∈ WU := wu 345 (by decide +kernel) (by decide +kernel)
theorem k_346 : Cond.classLink "PaneStreet$History" 9 "PaneStreet$Street" ∈ WU := wu 346 (by decide +kernel) (by decide +kernel)
theorem k_360 : Cond.classLink "PaneStreet" 49 "PaneStreet$Clock" ∈ WU := wu 360 (by decide +kernel) (by decide +kernel)
theorem k_361 : Cond.instantiable "PaneStreet$Clock" 1 ∈ WU := wu 361 (by decide +kernel) (by decide +kernel)
theorem k_363 : Cond.instanceMethod ⟨"PaneStreet$Clock", "<init>", "()V"⟩ ∈ WU := wu 363 (by decide +kernel) (by decide +kernel)
theorem k_365 : Cond.methodLink "PaneStreet$Clock" 3 ⟨"java/lang/Object", "<init>", "()V"⟩ ∈ WU := wu 365 (by decide +kernel) (by decide +kernel)
theorem k_366 : Cond.classLink "PaneStreet$Clock" 9 "PaneStreet$Street" ∈ WU := wu 366 (by decide +kernel) (by decide +kernel)
theorem k_372 : Cond.classLink "PaneStreet" 56 "PaneStreet$Net" ∈ WU := wu 372 (by decide +kernel) (by decide +kernel)
theorem k_373 : Cond.instantiable "PaneStreet$Net" 4 ∈ WU := wu 373 (by decide +kernel) (by decide +kernel)
theorem k_375 : Cond.instanceMethod ⟨"PaneStreet$Net", "<init>", "()V"⟩ ∈ WU := wu 375 (by decide +kernel) (by decide +kernel)
theorem k_377 : Cond.methodLink "PaneStreet$Net" 3 ⟨"java/lang/Object", "<init>", "()V"⟩ ∈ WU := wu 377 (by decide +kernel) (by decide +kernel)
theorem k_378 : Cond.classLink "PaneStreet$Net" 9 "PaneStreet$Row" ∈ WU := wu 378 (by decide +kernel) (by decide +kernel)
theorem k_379 : Cond.methodLink "PaneStreet$Net" 11 ⟨"PaneStreet$Row", "<init>", "(I)V"⟩ ∈ WU := wu 379 (by decide +kernel) (by decide +kernel)
theorem k_393 : Cond.classLink "PaneStreet" 63 "PaneStreet$Favours" ∈ WU := wu 393 (by decide +kernel) (by decide +kernel)
theorem k_394 : Cond.instantiable "PaneStreet$Favours" 1 ∈ WU := wu 394 (by decide +kernel) (by decide +kernel)
theorem k_396 : Cond.instanceMethod ⟨"PaneStreet$Favours", "<init>", "()V"⟩ ∈ WU := wu 396 (by decide +kernel) (by decide +kernel)
theorem k_398 : Cond.methodLink "PaneStreet$Favours" 3 ⟨"java/lang/Object", "<init>", "()V"⟩ ∈ WU := wu 398 (by decide +kernel) (by decide +kernel)
theorem k_399 : Cond.classLink "PaneStreet$Favours" 9 "PaneStreet$Row" ∈ WU := wu 399 (by decide +kernel) (by decide +kernel)
theorem k_400 : Cond.methodLink "PaneStreet$Favours" 11 ⟨"PaneStreet$Row", "<init>", "(I)V"⟩ ∈ WU := wu 400 (by decide +kernel) (by decide +kernel)
theorem nw_0 : Cond.methodLinkNest "PaneStreet" 9 ⟨"PaneStreet$Text", "<init>", "()V"⟩ "PaneStreet" ∈ nstL := by decide +kernel
theorem nw_1 : Cond.methodLinkNest "PaneStreet" 18 ⟨"PaneStreet$Street", "<init>", "()V"⟩ "PaneStreet" ∈ nstL := by decide +kernel
theorem nw_2 : Cond.methodLinkNest "PaneStreet" 31 ⟨"PaneStreet$Law", "<init>", "()V"⟩ "PaneStreet" ∈ nstL := by decide +kernel
theorem nw_3 : Cond.methodLinkNest "PaneStreet$History" 17 ⟨"PaneStreet$Street", "<init>", "()V"⟩ "PaneStreet" ∈ nstL := by decide +kernel
theorem nw_4 : Cond.methodLinkNest "PaneStreet" 51 ⟨"PaneStreet$Clock", "<init>", "()V"⟩ "PaneStreet" ∈ nstL := by decide +kernel
theorem nw_5 : Cond.methodLinkNest "PaneStreet$Clock" 11 ⟨"PaneStreet$Street", "<init>", "()V"⟩ "PaneStreet" ∈ nstL := by decide +kernel
theorem nw_6 : Cond.methodLinkNest "PaneStreet" 58 ⟨"PaneStreet$Net", "<init>", "()V"⟩ "PaneStreet" ∈ nstL := by decide +kernel
theorem nw_7 : Cond.methodLinkNest "PaneStreet" 65 ⟨"PaneStreet$Favours", "<init>", "()V"⟩ "PaneStreet" ∈ nstL := by decide +kernel
theorem q_X6_init : CQ yX6_init cX6_init 2 none 1 := ⟨wu 152 (by decide +kernel) (by decide +kernel), wu 106 (by decide +kernel) (by decide +kernel), by decide +kernel, by decide +kernel, by decide +kernel⟩
theorem q_X7_init : CQ yX7_init cX7_init 1 none 0 := ⟨wu 194 (by decide +kernel) (by decide +kernel), wu 108 (by decide +kernel) (by decide +kernel), by decide +kernel, by decide +kernel, by decide +kernel⟩
theorem q_X10_init : CQ yX10_init cX10_init 1 none 0 := ⟨wu 146 (by decide +kernel) (by decide +kernel), wu 105 (by decide +kernel) (by decide +kernel), by decide +kernel, by decide +kernel, by decide +kernel⟩
theorem q_X3_init : CQ yX3_init cX3_init 1 none 0 := ⟨wu 308 (by decide +kernel) (by decide +kernel), wu 109 (by decide +kernel) (by decide +kernel), by decide +kernel, by decide +kernel, by decide +kernel⟩
theorem q_X2_init : CQ yX2_init cX2_init 2 none 0 := ⟨wu 344 (by decide +kernel) (by decide +kernel), wu 112 (by decide +kernel) (by decide +kernel), by decide +kernel, by decide +kernel, by decide +kernel⟩
theorem q_X0_init : CQ yX0_init cX0_init 1 none 0 := ⟨wu 364 (by decide +kernel) (by decide +kernel), wu 113 (by decide +kernel) (by decide +kernel), by decide +kernel, by decide +kernel, by decide +kernel⟩
theorem q_X5_init : CQ yX5_init cX5_init 1 none 0 := ⟨wu 376 (by decide +kernel) (by decide +kernel), wu 114 (by decide +kernel) (by decide +kernel), by decide +kernel, by decide +kernel, by decide +kernel⟩
theorem q_X1_init : CQ yX1_init cX1_init 1 none 0 := ⟨wu 397 (by decide +kernel) (by decide +kernel), wu 115 (by decide +kernel) (by decide +kernel), by decide +kernel, by decide +kernel, by decide +kernel⟩
theorem lf_2_10_ : ∀ k, k < nC → kd k = 2 → ln (k + 10) = 6 := by decide +kernel
theorem lf_2_10 {k : Nat} (h : kd k = 2) : ln (k + 10) = 6 := lf_2_10_ k (kd_lt (by rw [h]; decide)) h
theorem lf_2_12_ : ∀ k, k < nC → kd k = 2 → ln (k + 12) = 6 := by decide +kernel
theorem lf_2_12 {k : Nat} (h : kd k = 2) : ln (k + 12) = 6 := lf_2_12_ k (kd_lt (by rw [h]; decide)) h
theorem lf_2_14_ : ∀ k, k < nC → kd k = 2 → ln (k + 14) = 6 := by decide +kernel
theorem lf_2_14 {k : Nat} (h : kd k = 2) : ln (k + 14) = 6 := lf_2_14_ k (kd_lt (by rw [h]; decide)) h
theorem lf_2_16_ : ∀ k, k < nC → kd k = 2 → ln (k + 16) = 6 := by decide +kernel
theorem lf_2_16 {k : Nat} (h : kd k = 2) : ln (k + 16) = 6 := lf_2_16_ k (kd_lt (by rw [h]; decide)) h
theorem lf_2_18_ : ∀ k, k < nC → kd k = 2 → ln (k + 18) = 36 := by decide +kernel
theorem lf_2_18 {k : Nat} (h : kd k = 2) : ln (k + 18) = 36 := lf_2_18_ k (kd_lt (by rw [h]; decide)) h
theorem lf_2_2_ : ∀ k, k < nC → kd k = 2 → ln (k + 2) = 9 := by decide +kernel
theorem lf_2_2 {k : Nat} (h : kd k = 2) : ln (k + 2) = 9 := lf_2_2_ k (kd_lt (by rw [h]; decide)) h
theorem lf_2_20_ : ∀ k, k < nC → kd k = 2 → ln (k + 20) = 60 := by decide +kernel
theorem lf_2_20 {k : Nat} (h : kd k = 2) : ln (k + 20) = 60 := lf_2_20_ k (kd_lt (by rw [h]; decide)) h
theorem lf_2_4_ : ∀ k, k < nC → kd k = 2 → ln (k + 4) = 9 := by decide +kernel
theorem lf_2_4 {k : Nat} (h : kd k = 2) : ln (k + 4) = 9 := lf_2_4_ k (kd_lt (by rw [h]; decide)) h
theorem lf_2_6_ : ∀ k, k < nC → kd k = 2 → ln (k + 6) = 9 := by decide +kernel
theorem lf_2_6 {k : Nat} (h : kd k = 2) : ln (k + 6) = 9 := lf_2_6_ k (kd_lt (by rw [h]; decide)) h
theorem lf_2_8_ : ∀ k, k < nC → kd k = 2 → ln (k + 8) = 9 := by decide +kernel
theorem lf_2_8 {k : Nat} (h : kd k = 2) : ln (k + 8) = 9 := lf_2_8_ k (kd_lt (by rw [h]; decide)) h
theorem lf_3_10_ : ∀ k, k < nC → kd k = 3 → ln (k + 10) = 9 := by decide +kernel
theorem lf_3_10 {k : Nat} (h : kd k = 3) : ln (k + 10) = 9 := lf_3_10_ k (kd_lt (by rw [h]; decide)) h
theorem lf_3_12_ : ∀ k, k < nC → kd k = 3 → ln (k + 12) = 64 := by decide +kernel
theorem lf_3_12 {k : Nat} (h : kd k = 3) : ln (k + 12) = 64 := lf_3_12_ k (kd_lt (by rw [h]; decide)) h
theorem lf_3_2_ : ∀ k, k < nC → kd k = 3 → ln (k + 2) = 12 := by decide +kernel
theorem lf_3_2 {k : Nat} (h : kd k = 3) : ln (k + 2) = 12 := lf_3_2_ k (kd_lt (by rw [h]; decide)) h
theorem lf_3_4_ : ∀ k, k < nC → kd k = 3 → ln (k + 4) = 12 := by decide +kernel
theorem lf_3_4 {k : Nat} (h : kd k = 3) : ln (k + 4) = 12 := lf_3_4_ k (kd_lt (by rw [h]; decide)) h
theorem lf_3_6_ : ∀ k, k < nC → kd k = 3 → ln (k + 6) = 12 := by decide +kernel
theorem lf_3_6 {k : Nat} (h : kd k = 3) : ln (k + 6) = 12 := lf_3_6_ k (kd_lt (by rw [h]; decide)) h
theorem lf_3_8_ : ∀ k, k < nC → kd k = 3 → ln (k + 8) = 400 := by decide +kernel
theorem lf_3_8 {k : Nat} (h : kd k = 3) : ln (k + 8) = 400 := lf_3_8_ k (kd_lt (by rw [h]; decide)) h
theorem ln_112 : ln 112 = 12 := by decide +kernel
theorem ln_3 : ln 3 = 400 := by decide +kernel
theorem ln_389 : ln 389 = 81 := by decide +kernel
theorem ln_391 : ln 391 = 4608 := by decide +kernel
theorem ln_393 : ln 393 = 21 := by decide +kernel
theorem ln_395 : ln 395 = 10 := by decide +kernel
theorem ln_398 : ln 398 = 64 := by decide +kernel
theorem ln_4 : ln 4 = 401 := by decide +kernel
theorem ln_400 : ln 400 = 888 := by decide +kernel
theorem ln_401 : ln 401 = 888 := by decide +kernel
theorem ln_402 : ln 402 = 488 := by decide +kernel
theorem ln_403 : ln 403 = 5856 := by decide +kernel
theorem ln_404 : ln 404 = 400 := by decide +kernel
theorem ln_405 : ln 405 = 7 := by decide +kernel
theorem ln_406 : ln 406 = 81 := by decide +kernel
theorem ln_407 : ln 407 = 2304 := by decide +kernel
theorem ln_408 : ln 408 = 64 := by decide +kernel
theorem ln_409 : ln 409 = 81 := by decide +kernel
theorem ln_410 : ln 410 = 9 := by decide +kernel
theorem ln_6 : ln 6 = 401 := by decide +kernel
theorem ln_8 : ln 8 = 401 := by decide +kernel
set_option maxRecDepth 20000 in
theorem n_X6 (l : Launch) (E : GE) {f : Nat → va_E} {k : Nat} (hk : kd k = 1) {N : Nat} (hN : N < 100000) (hlen : ln (k + 1) = N) (hf : f k = .inr (5, [.null])) : CtN l E yX6_init cX6_init 2 3 1 N [.ref (gB E + k), .int (nI N)] f (k + 1) (fi E k 2 f) (k + 2) := by
  refine Met.ofW (cc := cX6_init) (maxL := 2) (ret := none) (by decide) rfl ?_
  intro p e s m args below meth c s₁ B hml hv
  obtain ⟨rfl, G, hA, hB, h0, X⟩ := startC hv
  have C := cxof B hml
  have hin : meth.name = "<init>" := (name_of_methodNamed B.named B.method).1
  have hl := lv_entry [.ref (gB E + k), .int (nI N)] (n := 2) (Nat.le_of_ble_eq_true rfl)
  rw [lg_entry_eq]
  generalize (lg_sl [.ref (gB E + k), .int (nI N)] ++ List.replicate (2 - (lg_sl [.ref (gB E + k), .int (nI N)]).length) Slot.unset).toArray = ls at hl ⊢
  show W p l e (RC 3 1 N) s m _ below meth c s.heap [] 0 0 (MQ below (va_Qv (fun (_ : Unit) => True) (fun _ t => We' E (fi E k 2 f) (k + 2) t) (Fr E)) _ s 1 N (Fr E)) (F0 m 0 ls [])
  have X : Hc E (NF E k (k + 1) (.inr (5, [.null])) f) (k + 1) s s.heap [] := by rw [← NF_0 hf]; exact X
  refine lv_aload_n C.1 C.2.1 dX6_init_0 rfl (lv_at hl 0 rfl) ?_
  refine cobj C hl.1 k_153 k_140 k_141 dX6_init_1 (Nat.le_of_ble_eq_true rfl) (Nat.le_of_ble_eq_true rfl) ?_
  refine lv_aload_n C.1 C.2.1 dX6_init_4 rfl (lv_at hl 0 rfl) ?_
  refine lv_iload_n C.1 C.2.1 dX6_init_5 rfl (lv_at hl 1 rfl) ?_
  refine lv_iconst (v := 0) C.1 C.2.1 dX6_init_6 (by decide) ?_
  refine mmax C hl.1 (cells := 0) k_154 ⟨Nat.le_of_ble_eq_true rfl, Nat.le_of_ble_eq_true rfl, Nat.zero_le _, Nat.zero_le _⟩ dX6_init_7 ?_
  rw [if_neg (nI_pos (by omega))]
  refine cnewI C G X h0 (by omega) (by omega) k_161 (N := N) rfl (hN) (Nat.le_of_ble_eq_true rfl) (by show 0 + N ≤ N; omega) dX6_init_10 (fun H X => ?_)
  rw [NF_one (by omega) (by rw [co_z 0 (kf_1_1 hk)]; show _ = Sum.inl (gT E 0, ln (k + 1), _); rw [hlen]; rfl)] at X
  have X : Hc E (NF E k (k + 2) (.inr (5, [.null])) f) (k + 2) s H _ := X
  refine cfX6 C G X (k := k) (by omega) 0 (v := .ref (gB E + (k + 1))) (ty := (.array .int)) NF_at (Nat.le_of_ble_eq_true rfl) (by decide) k_157 rfl rfl hin rfl (by decide +kernel) rfl rfl dX6_init_12 (fun H locs X => ?_)
  rw [NF_put] at X
  have X : Hc E (NF E k (k + 2) (.inr (5, [.ref (gB E + (k + 1))])) f) (k + 2) s H locs := X
  exact rtN C X rfl (by show 0 + N = N; omega) (NF_end (m := 2) (by rw [co_z 1 hk]; rfl) (by omega)) rfl dX6_init_15
set_option maxRecDepth 20000 in
theorem n_X7 (l : Launch) (E : GE) {f : Nat → va_E} {k : Nat} (hk : kd k = 2) (hf : f k = .inr (6, [.int 0, .int 0, .int 0, .int 0, .int 0, .int 0, .int 0, .int 0, .int 0, .null, .null, .null, .null, .null, .null, .null, .null, .null, .null, .int 0])) : CtN l E yX7_init cX7_init 1 5 20 166 [.ref (gB E + k)] f (k + 1) (fi E k 21 f) (k + 21) := by
  refine Met.ofW (cc := cX7_init) (maxL := 1) (ret := none) (by decide) rfl ?_
  intro p e s m args below meth c s₁ B hml hv
  obtain ⟨rfl, G, hA, hB, h0, X⟩ := startC hv
  have C := cxof B hml
  have hin : meth.name = "<init>" := (name_of_methodNamed B.named B.method).1
  have hl := lv_entry [.ref (gB E + k)] (n := 1) (Nat.le_of_ble_eq_true rfl)
  rw [lg_entry_eq]
  generalize (lg_sl [.ref (gB E + k)] ++ List.replicate (1 - (lg_sl [.ref (gB E + k)]).length) Slot.unset).toArray = ls at hl ⊢
  show W p l e (RC 5 20 166) s m _ below meth c s.heap [] 0 0 (MQ below (va_Qv (fun (_ : Unit) => True) (fun _ t => We' E (fi E k 21 f) (k + 21) t) (Fr E)) _ s 20 166 (Fr E)) (F0 m 0 ls [])
  have X : Hc E (NF E k (k + 1) (.inr (6, [.int 0, .int 0, .int 0, .int 0, .int 0, .int 0, .int 0, .int 0, .int 0, .null, .null, .null, .null, .null, .null, .null, .null, .null, .null, .int 0])) f) (k + 1) s s.heap [] := by rw [← NF_0 hf]; exact X
  refine lv_aload_n C.1 C.2.1 dX7_init_0 rfl (lv_at hl 0 rfl) ?_
  refine cobj C hl.1 k_195 k_140 k_141 dX7_init_1 (Nat.le_of_ble_eq_true rfl) (Nat.le_of_ble_eq_true rfl) ?_
  refine lv_aload_n C.1 C.2.1 dX7_init_4 rfl (lv_at hl 0 rfl) ?_
  refine lv_iconst (v := 1) C.1 C.2.1 dX7_init_5 (by decide) ?_
  refine cvX7 C G X (k := k) (by omega) 7 (v := .int 1) (ty := .int) NF_at (Nat.le_of_ble_eq_true rfl) (by decide) k_226 rfl rfl (by decide +kernel) rfl rfl dX7_init_6 (fun H locs X => ?_)
  rw [NF_put] at X
  have X : Hc E (NF E k (k + 1) (.inr (6, [.int 0, .int 0, .int 0, .int 0, .int 0, .int 0, .int 0, .int 1, .int 0, .null, .null, .null, .null, .null, .null, .null, .null, .null, .null, .int 0])) f) (k + 1) s H locs := X
  refine lv_aload_n C.1 C.2.1 dX7_init_9 rfl (lv_at hl 0 rfl) ?_
  refine cnew C G X h0 (by omega) (by omega) inX6 tyX6 tyX6_ok k_196 k_149 k_106 (show vwCl[5]? = some (RX6, TX6, 1) from rfl) (fs := [.null]) (fun j hj => by match j, hj with | 0, _ => rfl | j + 1, h => exact absurd h (by omega)) (Nat.le_of_ble_eq_true rfl) (Nat.le_of_ble_eq_true rfl) dX7_init_10 (fun H X => ?_)
  refine lv_dup C.1 C.2.1 dX7_init_13 rfl ?_
  refine lv_bipush (v := 9) C.1 C.2.1 dX7_init_14 (by decide) ?_
  refine ccall C G hA hB X h0 (by omega) (by omega) q_X6_init rfl k_151 k_197 (n_X6 l E (k := k + 1) (kf_2_1 hk) (N := 9) (by omega) (lf_2_2 hk) (by rw [va_up, if_pos rfl])) rfl hl.1 rfl (Nat.le_of_ble_eq_true rfl) ⟨Nat.le_of_ble_eq_true rfl, Nat.le_of_ble_eq_true rfl⟩ ⟨Nat.le_of_ble_eq_true rfl, Nat.le_of_ble_eq_true rfl⟩ dX7_init_16 (fun H locs X => ?_)
  rw [NF_fi (by omega) (by omega)] at X
  have X : Hc E (NF E k (k + 3) (.inr (6, [.int 0, .int 0, .int 0, .int 0, .int 0, .int 0, .int 0, .int 1, .int 0, .null, .null, .null, .null, .null, .null, .null, .null, .null, .null, .int 0])) f) (k + 3) s H locs := X
  refine W.cs (cells' := 2) (slots' := 10) rfl rfl ?_
  refine cfX7 C G X (k := k) (by omega) 9 (v := .ref (gB E + (k + 1))) (ty := (.object "PaneStreet$Row")) NF_at (Nat.le_of_ble_eq_true rfl) (by decide) k_232 rfl rfl hin rfl (by decide +kernel) rfl rfl dX7_init_19 (fun H locs X => ?_)
  rw [NF_put] at X
  have X : Hc E (NF E k (k + 3) (.inr (6, [.int 0, .int 0, .int 0, .int 0, .int 0, .int 0, .int 0, .int 1, .int 0, .ref (gB E + (k + 1)), .null, .null, .null, .null, .null, .null, .null, .null, .null, .int 0])) f) (k + 3) s H locs := X
  refine lv_aload_n C.1 C.2.1 dX7_init_22 rfl (lv_at hl 0 rfl) ?_
  refine cnew C G X h0 (by omega) (by omega) inX6 tyX6 tyX6_ok k_196 k_149 k_106 (show vwCl[5]? = some (RX6, TX6, 1) from rfl) (fs := [.null]) (fun j hj => by match j, hj with | 0, _ => rfl | j + 1, h => exact absurd h (by omega)) (Nat.le_of_ble_eq_true rfl) (Nat.le_of_ble_eq_true rfl) dX7_init_23 (fun H X => ?_)
  refine lv_dup C.1 C.2.1 dX7_init_26 rfl ?_
  refine lv_bipush (v := 9) C.1 C.2.1 dX7_init_27 (by decide) ?_
  refine ccall C G hA hB X h0 (by omega) (by omega) q_X6_init rfl k_151 k_197 (n_X6 l E (k := k + 3) (kf_2_3 hk) (N := 9) (by omega) (lf_2_4 hk) (by rw [va_up, if_pos rfl])) rfl hl.1 rfl (Nat.le_of_ble_eq_true rfl) ⟨Nat.le_of_ble_eq_true rfl, Nat.le_of_ble_eq_true rfl⟩ ⟨Nat.le_of_ble_eq_true rfl, Nat.le_of_ble_eq_true rfl⟩ dX7_init_29 (fun H locs X => ?_)
  rw [NF_fi (by omega) (by omega)] at X
  have X : Hc E (NF E k (k + 5) (.inr (6, [.int 0, .int 0, .int 0, .int 0, .int 0, .int 0, .int 0, .int 1, .int 0, .ref (gB E + (k + 1)), .null, .null, .null, .null, .null, .null, .null, .null, .null, .int 0])) f) (k + 5) s H locs := X
  refine W.cs (cells' := 4) (slots' := 20) rfl rfl ?_
  refine cfX7 C G X (k := k) (by omega) 10 (v := .ref (gB E + (k + 3))) (ty := (.object "PaneStreet$Row")) NF_at (Nat.le_of_ble_eq_true rfl) (by decide) k_235 rfl rfl hin rfl (by decide +kernel) rfl rfl dX7_init_32 (fun H locs X => ?_)
  rw [NF_put] at X
  have X : Hc E (NF E k (k + 5) (.inr (6, [.int 0, .int 0, .int 0, .int 0, .int 0, .int 0, .int 0, .int 1, .int 0, .ref (gB E + (k + 1)), .ref (gB E + (k + 3)), .null, .null, .null, .null, .null, .null, .null, .null, .int 0])) f) (k + 5) s H locs := X
  refine lv_aload_n C.1 C.2.1 dX7_init_35 rfl (lv_at hl 0 rfl) ?_
  refine cnew C G X h0 (by omega) (by omega) inX6 tyX6 tyX6_ok k_196 k_149 k_106 (show vwCl[5]? = some (RX6, TX6, 1) from rfl) (fs := [.null]) (fun j hj => by match j, hj with | 0, _ => rfl | j + 1, h => exact absurd h (by omega)) (Nat.le_of_ble_eq_true rfl) (Nat.le_of_ble_eq_true rfl) dX7_init_36 (fun H X => ?_)
  refine lv_dup C.1 C.2.1 dX7_init_39 rfl ?_
  refine lv_bipush (v := 9) C.1 C.2.1 dX7_init_40 (by decide) ?_
  refine ccall C G hA hB X h0 (by omega) (by omega) q_X6_init rfl k_151 k_197 (n_X6 l E (k := k + 5) (kf_2_5 hk) (N := 9) (by omega) (lf_2_6 hk) (by rw [va_up, if_pos rfl])) rfl hl.1 rfl (Nat.le_of_ble_eq_true rfl) ⟨Nat.le_of_ble_eq_true rfl, Nat.le_of_ble_eq_true rfl⟩ ⟨Nat.le_of_ble_eq_true rfl, Nat.le_of_ble_eq_true rfl⟩ dX7_init_42 (fun H locs X => ?_)
  rw [NF_fi (by omega) (by omega)] at X
  have X : Hc E (NF E k (k + 7) (.inr (6, [.int 0, .int 0, .int 0, .int 0, .int 0, .int 0, .int 0, .int 1, .int 0, .ref (gB E + (k + 1)), .ref (gB E + (k + 3)), .null, .null, .null, .null, .null, .null, .null, .null, .int 0])) f) (k + 7) s H locs := X
  refine W.cs (cells' := 6) (slots' := 30) rfl rfl ?_
  refine cfX7 C G X (k := k) (by omega) 11 (v := .ref (gB E + (k + 5))) (ty := (.object "PaneStreet$Row")) NF_at (Nat.le_of_ble_eq_true rfl) (by decide) k_241 rfl rfl hin rfl (by decide +kernel) rfl rfl dX7_init_45 (fun H locs X => ?_)
  rw [NF_put] at X
  have X : Hc E (NF E k (k + 7) (.inr (6, [.int 0, .int 0, .int 0, .int 0, .int 0, .int 0, .int 0, .int 1, .int 0, .ref (gB E + (k + 1)), .ref (gB E + (k + 3)), .ref (gB E + (k + 5)), .null, .null, .null, .null, .null, .null, .null, .int 0])) f) (k + 7) s H locs := X
  refine lv_aload_n C.1 C.2.1 dX7_init_48 rfl (lv_at hl 0 rfl) ?_
  refine cnew C G X h0 (by omega) (by omega) inX6 tyX6 tyX6_ok k_196 k_149 k_106 (show vwCl[5]? = some (RX6, TX6, 1) from rfl) (fs := [.null]) (fun j hj => by match j, hj with | 0, _ => rfl | j + 1, h => exact absurd h (by omega)) (Nat.le_of_ble_eq_true rfl) (Nat.le_of_ble_eq_true rfl) dX7_init_49 (fun H X => ?_)
  refine lv_dup C.1 C.2.1 dX7_init_52 rfl ?_
  refine lv_bipush (v := 9) C.1 C.2.1 dX7_init_53 (by decide) ?_
  refine ccall C G hA hB X h0 (by omega) (by omega) q_X6_init rfl k_151 k_197 (n_X6 l E (k := k + 7) (kf_2_7 hk) (N := 9) (by omega) (lf_2_8 hk) (by rw [va_up, if_pos rfl])) rfl hl.1 rfl (Nat.le_of_ble_eq_true rfl) ⟨Nat.le_of_ble_eq_true rfl, Nat.le_of_ble_eq_true rfl⟩ ⟨Nat.le_of_ble_eq_true rfl, Nat.le_of_ble_eq_true rfl⟩ dX7_init_55 (fun H locs X => ?_)
  rw [NF_fi (by omega) (by omega)] at X
  have X : Hc E (NF E k (k + 9) (.inr (6, [.int 0, .int 0, .int 0, .int 0, .int 0, .int 0, .int 0, .int 1, .int 0, .ref (gB E + (k + 1)), .ref (gB E + (k + 3)), .ref (gB E + (k + 5)), .null, .null, .null, .null, .null, .null, .null, .int 0])) f) (k + 9) s H locs := X
  refine W.cs (cells' := 8) (slots' := 40) rfl rfl ?_
  refine cfX7 C G X (k := k) (by omega) 12 (v := .ref (gB E + (k + 7))) (ty := (.object "PaneStreet$Row")) NF_at (Nat.le_of_ble_eq_true rfl) (by decide) k_245 rfl rfl hin rfl (by decide +kernel) rfl rfl dX7_init_58 (fun H locs X => ?_)
  rw [NF_put] at X
  have X : Hc E (NF E k (k + 9) (.inr (6, [.int 0, .int 0, .int 0, .int 0, .int 0, .int 0, .int 0, .int 1, .int 0, .ref (gB E + (k + 1)), .ref (gB E + (k + 3)), .ref (gB E + (k + 5)), .ref (gB E + (k + 7)), .null, .null, .null, .null, .null, .null, .int 0])) f) (k + 9) s H locs := X
  refine lv_aload_n C.1 C.2.1 dX7_init_61 rfl (lv_at hl 0 rfl) ?_
  refine cnew C G X h0 (by omega) (by omega) inX6 tyX6 tyX6_ok k_196 k_149 k_106 (show vwCl[5]? = some (RX6, TX6, 1) from rfl) (fs := [.null]) (fun j hj => by match j, hj with | 0, _ => rfl | j + 1, h => exact absurd h (by omega)) (Nat.le_of_ble_eq_true rfl) (Nat.le_of_ble_eq_true rfl) dX7_init_62 (fun H X => ?_)
  refine lv_dup C.1 C.2.1 dX7_init_65 rfl ?_
  refine lv_bipush (v := 6) C.1 C.2.1 dX7_init_66 (by decide) ?_
  refine ccall C G hA hB X h0 (by omega) (by omega) q_X6_init rfl k_151 k_197 (n_X6 l E (k := k + 9) (kf_2_9 hk) (N := 6) (by omega) (lf_2_10 hk) (by rw [va_up, if_pos rfl])) rfl hl.1 rfl (Nat.le_of_ble_eq_true rfl) ⟨Nat.le_of_ble_eq_true rfl, Nat.le_of_ble_eq_true rfl⟩ ⟨Nat.le_of_ble_eq_true rfl, Nat.le_of_ble_eq_true rfl⟩ dX7_init_68 (fun H locs X => ?_)
  rw [NF_fi (by omega) (by omega)] at X
  have X : Hc E (NF E k (k + 11) (.inr (6, [.int 0, .int 0, .int 0, .int 0, .int 0, .int 0, .int 0, .int 1, .int 0, .ref (gB E + (k + 1)), .ref (gB E + (k + 3)), .ref (gB E + (k + 5)), .ref (gB E + (k + 7)), .null, .null, .null, .null, .null, .null, .int 0])) f) (k + 11) s H locs := X
  refine W.cs (cells' := 10) (slots' := 47) rfl rfl ?_
  refine cfX7 C G X (k := k) (by omega) 13 (v := .ref (gB E + (k + 9))) (ty := (.object "PaneStreet$Row")) NF_at (Nat.le_of_ble_eq_true rfl) (by decide) k_247 rfl rfl hin rfl (by decide +kernel) rfl rfl dX7_init_71 (fun H locs X => ?_)
  rw [NF_put] at X
  have X : Hc E (NF E k (k + 11) (.inr (6, [.int 0, .int 0, .int 0, .int 0, .int 0, .int 0, .int 0, .int 1, .int 0, .ref (gB E + (k + 1)), .ref (gB E + (k + 3)), .ref (gB E + (k + 5)), .ref (gB E + (k + 7)), .ref (gB E + (k + 9)), .null, .null, .null, .null, .null, .int 0])) f) (k + 11) s H locs := X
  refine lv_aload_n C.1 C.2.1 dX7_init_74 rfl (lv_at hl 0 rfl) ?_
  refine cnew C G X h0 (by omega) (by omega) inX6 tyX6 tyX6_ok k_196 k_149 k_106 (show vwCl[5]? = some (RX6, TX6, 1) from rfl) (fs := [.null]) (fun j hj => by match j, hj with | 0, _ => rfl | j + 1, h => exact absurd h (by omega)) (Nat.le_of_ble_eq_true rfl) (Nat.le_of_ble_eq_true rfl) dX7_init_75 (fun H X => ?_)
  refine lv_dup C.1 C.2.1 dX7_init_78 rfl ?_
  refine lv_bipush (v := 6) C.1 C.2.1 dX7_init_79 (by decide) ?_
  refine ccall C G hA hB X h0 (by omega) (by omega) q_X6_init rfl k_151 k_197 (n_X6 l E (k := k + 11) (kf_2_11 hk) (N := 6) (by omega) (lf_2_12 hk) (by rw [va_up, if_pos rfl])) rfl hl.1 rfl (Nat.le_of_ble_eq_true rfl) ⟨Nat.le_of_ble_eq_true rfl, Nat.le_of_ble_eq_true rfl⟩ ⟨Nat.le_of_ble_eq_true rfl, Nat.le_of_ble_eq_true rfl⟩ dX7_init_81 (fun H locs X => ?_)
  rw [NF_fi (by omega) (by omega)] at X
  have X : Hc E (NF E k (k + 13) (.inr (6, [.int 0, .int 0, .int 0, .int 0, .int 0, .int 0, .int 0, .int 1, .int 0, .ref (gB E + (k + 1)), .ref (gB E + (k + 3)), .ref (gB E + (k + 5)), .ref (gB E + (k + 7)), .ref (gB E + (k + 9)), .null, .null, .null, .null, .null, .int 0])) f) (k + 13) s H locs := X
  refine W.cs (cells' := 12) (slots' := 54) rfl rfl ?_
  refine cfX7 C G X (k := k) (by omega) 14 (v := .ref (gB E + (k + 11))) (ty := (.object "PaneStreet$Row")) NF_at (Nat.le_of_ble_eq_true rfl) (by decide) k_251 rfl rfl hin rfl (by decide +kernel) rfl rfl dX7_init_84 (fun H locs X => ?_)
  rw [NF_put] at X
  have X : Hc E (NF E k (k + 13) (.inr (6, [.int 0, .int 0, .int 0, .int 0, .int 0, .int 0, .int 0, .int 1, .int 0, .ref (gB E + (k + 1)), .ref (gB E + (k + 3)), .ref (gB E + (k + 5)), .ref (gB E + (k + 7)), .ref (gB E + (k + 9)), .ref (gB E + (k + 11)), .null, .null, .null, .null, .int 0])) f) (k + 13) s H locs := X
  refine lv_aload_n C.1 C.2.1 dX7_init_87 rfl (lv_at hl 0 rfl) ?_
  refine cnew C G X h0 (by omega) (by omega) inX6 tyX6 tyX6_ok k_196 k_149 k_106 (show vwCl[5]? = some (RX6, TX6, 1) from rfl) (fs := [.null]) (fun j hj => by match j, hj with | 0, _ => rfl | j + 1, h => exact absurd h (by omega)) (Nat.le_of_ble_eq_true rfl) (Nat.le_of_ble_eq_true rfl) dX7_init_88 (fun H X => ?_)
  refine lv_dup C.1 C.2.1 dX7_init_91 rfl ?_
  refine lv_bipush (v := 6) C.1 C.2.1 dX7_init_92 (by decide) ?_
  refine ccall C G hA hB X h0 (by omega) (by omega) q_X6_init rfl k_151 k_197 (n_X6 l E (k := k + 13) (kf_2_13 hk) (N := 6) (by omega) (lf_2_14 hk) (by rw [va_up, if_pos rfl])) rfl hl.1 rfl (Nat.le_of_ble_eq_true rfl) ⟨Nat.le_of_ble_eq_true rfl, Nat.le_of_ble_eq_true rfl⟩ ⟨Nat.le_of_ble_eq_true rfl, Nat.le_of_ble_eq_true rfl⟩ dX7_init_94 (fun H locs X => ?_)
  rw [NF_fi (by omega) (by omega)] at X
  have X : Hc E (NF E k (k + 15) (.inr (6, [.int 0, .int 0, .int 0, .int 0, .int 0, .int 0, .int 0, .int 1, .int 0, .ref (gB E + (k + 1)), .ref (gB E + (k + 3)), .ref (gB E + (k + 5)), .ref (gB E + (k + 7)), .ref (gB E + (k + 9)), .ref (gB E + (k + 11)), .null, .null, .null, .null, .int 0])) f) (k + 15) s H locs := X
  refine W.cs (cells' := 14) (slots' := 61) rfl rfl ?_
  refine cfX7 C G X (k := k) (by omega) 15 (v := .ref (gB E + (k + 13))) (ty := (.object "PaneStreet$Row")) NF_at (Nat.le_of_ble_eq_true rfl) (by decide) k_255 rfl rfl hin rfl (by decide +kernel) rfl rfl dX7_init_97 (fun H locs X => ?_)
  rw [NF_put] at X
  have X : Hc E (NF E k (k + 15) (.inr (6, [.int 0, .int 0, .int 0, .int 0, .int 0, .int 0, .int 0, .int 1, .int 0, .ref (gB E + (k + 1)), .ref (gB E + (k + 3)), .ref (gB E + (k + 5)), .ref (gB E + (k + 7)), .ref (gB E + (k + 9)), .ref (gB E + (k + 11)), .ref (gB E + (k + 13)), .null, .null, .null, .int 0])) f) (k + 15) s H locs := X
  refine lv_aload_n C.1 C.2.1 dX7_init_100 rfl (lv_at hl 0 rfl) ?_
  refine cnew C G X h0 (by omega) (by omega) inX6 tyX6 tyX6_ok k_196 k_149 k_106 (show vwCl[5]? = some (RX6, TX6, 1) from rfl) (fs := [.null]) (fun j hj => by match j, hj with | 0, _ => rfl | j + 1, h => exact absurd h (by omega)) (Nat.le_of_ble_eq_true rfl) (Nat.le_of_ble_eq_true rfl) dX7_init_101 (fun H X => ?_)
  refine lv_dup C.1 C.2.1 dX7_init_104 rfl ?_
  refine lv_bipush (v := 6) C.1 C.2.1 dX7_init_105 (by decide) ?_
  refine ccall C G hA hB X h0 (by omega) (by omega) q_X6_init rfl k_151 k_197 (n_X6 l E (k := k + 15) (kf_2_15 hk) (N := 6) (by omega) (lf_2_16 hk) (by rw [va_up, if_pos rfl])) rfl hl.1 rfl (Nat.le_of_ble_eq_true rfl) ⟨Nat.le_of_ble_eq_true rfl, Nat.le_of_ble_eq_true rfl⟩ ⟨Nat.le_of_ble_eq_true rfl, Nat.le_of_ble_eq_true rfl⟩ dX7_init_107 (fun H locs X => ?_)
  rw [NF_fi (by omega) (by omega)] at X
  have X : Hc E (NF E k (k + 17) (.inr (6, [.int 0, .int 0, .int 0, .int 0, .int 0, .int 0, .int 0, .int 1, .int 0, .ref (gB E + (k + 1)), .ref (gB E + (k + 3)), .ref (gB E + (k + 5)), .ref (gB E + (k + 7)), .ref (gB E + (k + 9)), .ref (gB E + (k + 11)), .ref (gB E + (k + 13)), .null, .null, .null, .int 0])) f) (k + 17) s H locs := X
  refine W.cs (cells' := 16) (slots' := 68) rfl rfl ?_
  refine cfX7 C G X (k := k) (by omega) 16 (v := .ref (gB E + (k + 15))) (ty := (.object "PaneStreet$Row")) NF_at (Nat.le_of_ble_eq_true rfl) (by decide) k_258 rfl rfl hin rfl (by decide +kernel) rfl rfl dX7_init_110 (fun H locs X => ?_)
  rw [NF_put] at X
  have X : Hc E (NF E k (k + 17) (.inr (6, [.int 0, .int 0, .int 0, .int 0, .int 0, .int 0, .int 0, .int 1, .int 0, .ref (gB E + (k + 1)), .ref (gB E + (k + 3)), .ref (gB E + (k + 5)), .ref (gB E + (k + 7)), .ref (gB E + (k + 9)), .ref (gB E + (k + 11)), .ref (gB E + (k + 13)), .ref (gB E + (k + 15)), .null, .null, .int 0])) f) (k + 17) s H locs := X
  refine lv_aload_n C.1 C.2.1 dX7_init_113 rfl (lv_at hl 0 rfl) ?_
  refine cnew C G X h0 (by omega) (by omega) inX6 tyX6 tyX6_ok k_196 k_149 k_106 (show vwCl[5]? = some (RX6, TX6, 1) from rfl) (fs := [.null]) (fun j hj => by match j, hj with | 0, _ => rfl | j + 1, h => exact absurd h (by omega)) (Nat.le_of_ble_eq_true rfl) (Nat.le_of_ble_eq_true rfl) dX7_init_114 (fun H X => ?_)
  refine lv_dup C.1 C.2.1 dX7_init_117 rfl ?_
  refine lv_bipush (v := 36) C.1 C.2.1 dX7_init_118 (by decide) ?_
  refine ccall C G hA hB X h0 (by omega) (by omega) q_X6_init rfl k_151 k_197 (n_X6 l E (k := k + 17) (kf_2_17 hk) (N := 36) (by omega) (lf_2_18 hk) (by rw [va_up, if_pos rfl])) rfl hl.1 rfl (Nat.le_of_ble_eq_true rfl) ⟨Nat.le_of_ble_eq_true rfl, Nat.le_of_ble_eq_true rfl⟩ ⟨Nat.le_of_ble_eq_true rfl, Nat.le_of_ble_eq_true rfl⟩ dX7_init_120 (fun H locs X => ?_)
  rw [NF_fi (by omega) (by omega)] at X
  have X : Hc E (NF E k (k + 19) (.inr (6, [.int 0, .int 0, .int 0, .int 0, .int 0, .int 0, .int 0, .int 1, .int 0, .ref (gB E + (k + 1)), .ref (gB E + (k + 3)), .ref (gB E + (k + 5)), .ref (gB E + (k + 7)), .ref (gB E + (k + 9)), .ref (gB E + (k + 11)), .ref (gB E + (k + 13)), .ref (gB E + (k + 15)), .null, .null, .int 0])) f) (k + 19) s H locs := X
  refine W.cs (cells' := 18) (slots' := 105) rfl rfl ?_
  refine cfX7 C G X (k := k) (by omega) 17 (v := .ref (gB E + (k + 17))) (ty := (.object "PaneStreet$Row")) NF_at (Nat.le_of_ble_eq_true rfl) (by decide) k_260 rfl rfl hin rfl (by decide +kernel) rfl rfl dX7_init_123 (fun H locs X => ?_)
  rw [NF_put] at X
  have X : Hc E (NF E k (k + 19) (.inr (6, [.int 0, .int 0, .int 0, .int 0, .int 0, .int 0, .int 0, .int 1, .int 0, .ref (gB E + (k + 1)), .ref (gB E + (k + 3)), .ref (gB E + (k + 5)), .ref (gB E + (k + 7)), .ref (gB E + (k + 9)), .ref (gB E + (k + 11)), .ref (gB E + (k + 13)), .ref (gB E + (k + 15)), .ref (gB E + (k + 17)), .null, .int 0])) f) (k + 19) s H locs := X
  refine lv_aload_n C.1 C.2.1 dX7_init_126 rfl (lv_at hl 0 rfl) ?_
  refine cnew C G X h0 (by omega) (by omega) inX6 tyX6 tyX6_ok k_196 k_149 k_106 (show vwCl[5]? = some (RX6, TX6, 1) from rfl) (fs := [.null]) (fun j hj => by match j, hj with | 0, _ => rfl | j + 1, h => exact absurd h (by omega)) (Nat.le_of_ble_eq_true rfl) (Nat.le_of_ble_eq_true rfl) dX7_init_127 (fun H X => ?_)
  refine lv_dup C.1 C.2.1 dX7_init_130 rfl ?_
  refine lv_bipush (v := 60) C.1 C.2.1 dX7_init_131 (by decide) ?_
  refine ccall C G hA hB X h0 (by omega) (by omega) q_X6_init rfl k_151 k_197 (n_X6 l E (k := k + 19) (kf_2_19 hk) (N := 60) (by omega) (lf_2_20 hk) (by rw [va_up, if_pos rfl])) rfl hl.1 rfl (Nat.le_of_ble_eq_true rfl) ⟨Nat.le_of_ble_eq_true rfl, Nat.le_of_ble_eq_true rfl⟩ ⟨Nat.le_of_ble_eq_true rfl, Nat.le_of_ble_eq_true rfl⟩ dX7_init_133 (fun H locs X => ?_)
  rw [NF_fi (by omega) (by omega)] at X
  have X : Hc E (NF E k (k + 21) (.inr (6, [.int 0, .int 0, .int 0, .int 0, .int 0, .int 0, .int 0, .int 1, .int 0, .ref (gB E + (k + 1)), .ref (gB E + (k + 3)), .ref (gB E + (k + 5)), .ref (gB E + (k + 7)), .ref (gB E + (k + 9)), .ref (gB E + (k + 11)), .ref (gB E + (k + 13)), .ref (gB E + (k + 15)), .ref (gB E + (k + 17)), .null, .int 0])) f) (k + 21) s H locs := X
  refine W.cs (cells' := 20) (slots' := 166) rfl rfl ?_
  refine cfX7 C G X (k := k) (by omega) 18 (v := .ref (gB E + (k + 19))) (ty := (.object "PaneStreet$Row")) NF_at (Nat.le_of_ble_eq_true rfl) (by decide) k_261 rfl rfl hin rfl (by decide +kernel) rfl rfl dX7_init_136 (fun H locs X => ?_)
  rw [NF_put] at X
  have X : Hc E (NF E k (k + 21) (.inr (6, [.int 0, .int 0, .int 0, .int 0, .int 0, .int 0, .int 0, .int 1, .int 0, .ref (gB E + (k + 1)), .ref (gB E + (k + 3)), .ref (gB E + (k + 5)), .ref (gB E + (k + 7)), .ref (gB E + (k + 9)), .ref (gB E + (k + 11)), .ref (gB E + (k + 13)), .ref (gB E + (k + 15)), .ref (gB E + (k + 17)), .ref (gB E + (k + 19)), .int 0])) f) (k + 21) s H locs := X
  exact rtN C X rfl rfl (NF_end (m := 21) (by rw [co_z 2 hk]; rfl) (by omega)) rfl dX7_init_139
set_option maxRecDepth 20000 in
theorem n_X3 (l : Launch) (E : GE) {f : Nat → va_E} {k : Nat} (hk : kd k = 3) (hf : f k = .inr (3, [.int 0, .null, .null, .null, .null, .int 0, .null, .null])) : CtN l E yX3_init cX3_init 1 5 12 515 [.ref (gB E + k)] f (k + 1) (fi E k 13 f) (k + 13) := by
  refine Met.ofW (cc := cX3_init) (maxL := 1) (ret := none) (by decide) rfl ?_
  intro p e s m args below meth c s₁ B hml hv
  obtain ⟨rfl, G, hA, hB, h0, X⟩ := startC hv
  have C := cxof B hml
  have hin : meth.name = "<init>" := (name_of_methodNamed B.named B.method).1
  have hl := lv_entry [.ref (gB E + k)] (n := 1) (Nat.le_of_ble_eq_true rfl)
  rw [lg_entry_eq]
  generalize (lg_sl [.ref (gB E + k)] ++ List.replicate (1 - (lg_sl [.ref (gB E + k)]).length) Slot.unset).toArray = ls at hl ⊢
  show W p l e (RC 5 12 515) s m _ below meth c s.heap [] 0 0 (MQ below (va_Qv (fun (_ : Unit) => True) (fun _ t => We' E (fi E k 13 f) (k + 13) t) (Fr E)) _ s 12 515 (Fr E)) (F0 m 0 ls [])
  have X : Hc E (NF E k (k + 1) (.inr (3, [.int 0, .null, .null, .null, .null, .int 0, .null, .null])) f) (k + 1) s s.heap [] := by rw [← NF_0 hf]; exact X
  refine lv_aload_n C.1 C.2.1 dX3_init_0 rfl (lv_at hl 0 rfl) ?_
  refine cobj C hl.1 k_309 k_140 k_141 dX3_init_1 (Nat.le_of_ble_eq_true rfl) (Nat.le_of_ble_eq_true rfl) ?_
  refine lv_aload_n C.1 C.2.1 dX3_init_4 rfl (lv_at hl 0 rfl) ?_
  refine lv_iconst (v := (-1)) C.1 C.2.1 dX3_init_5 (by decide) ?_
  refine cvX3 C G X (k := k) (by omega) 0 (v := .int (-1)) (ty := .int) NF_at (Nat.le_of_ble_eq_true rfl) (by decide) k_314 rfl rfl (by decide +kernel) rfl rfl dX3_init_6 (fun H locs X => ?_)
  rw [NF_put] at X
  have X : Hc E (NF E k (k + 1) (.inr (3, [.int (-1), .null, .null, .null, .null, .int 0, .null, .null])) f) (k + 1) s H locs := X
  refine lv_aload_n C.1 C.2.1 dX3_init_9 rfl (lv_at hl 0 rfl) ?_
  refine cnew C G X h0 (by omega) (by omega) inX6 tyX6 tyX6_ok k_310 k_149 k_106 (show vwCl[5]? = some (RX6, TX6, 1) from rfl) (fs := [.null]) (fun j hj => by match j, hj with | 0, _ => rfl | j + 1, h => exact absurd h (by omega)) (Nat.le_of_ble_eq_true rfl) (Nat.le_of_ble_eq_true rfl) dX3_init_10 (fun H X => ?_)
  refine lv_dup C.1 C.2.1 dX3_init_13 rfl ?_
  refine lv_bipush (v := 12) C.1 C.2.1 dX3_init_14 (by decide) ?_
  refine ccall C G hA hB X h0 (by omega) (by omega) q_X6_init rfl k_151 k_311 (n_X6 l E (k := k + 1) (kf_3_1 hk) (N := 12) (by omega) (lf_3_2 hk) (by rw [va_up, if_pos rfl])) rfl hl.1 rfl (Nat.le_of_ble_eq_true rfl) ⟨Nat.le_of_ble_eq_true rfl, Nat.le_of_ble_eq_true rfl⟩ ⟨Nat.le_of_ble_eq_true rfl, Nat.le_of_ble_eq_true rfl⟩ dX3_init_16 (fun H locs X => ?_)
  rw [NF_fi (by omega) (by omega)] at X
  have X : Hc E (NF E k (k + 3) (.inr (3, [.int (-1), .null, .null, .null, .null, .int 0, .null, .null])) f) (k + 3) s H locs := X
  refine W.cs (cells' := 2) (slots' := 13) rfl rfl ?_
  refine cfX3 C G X (k := k) (by omega) 1 (v := .ref (gB E + (k + 1))) (ty := (.object "PaneStreet$Row")) NF_at (Nat.le_of_ble_eq_true rfl) (by decide) k_316 rfl rfl hin rfl (by decide +kernel) rfl rfl dX3_init_19 (fun H locs X => ?_)
  rw [NF_put] at X
  have X : Hc E (NF E k (k + 3) (.inr (3, [.int (-1), .ref (gB E + (k + 1)), .null, .null, .null, .int 0, .null, .null])) f) (k + 3) s H locs := X
  refine lv_aload_n C.1 C.2.1 dX3_init_22 rfl (lv_at hl 0 rfl) ?_
  refine cnew C G X h0 (by omega) (by omega) inX6 tyX6 tyX6_ok k_310 k_149 k_106 (show vwCl[5]? = some (RX6, TX6, 1) from rfl) (fs := [.null]) (fun j hj => by match j, hj with | 0, _ => rfl | j + 1, h => exact absurd h (by omega)) (Nat.le_of_ble_eq_true rfl) (Nat.le_of_ble_eq_true rfl) dX3_init_23 (fun H X => ?_)
  refine lv_dup C.1 C.2.1 dX3_init_26 rfl ?_
  refine lv_bipush (v := 12) C.1 C.2.1 dX3_init_27 (by decide) ?_
  refine ccall C G hA hB X h0 (by omega) (by omega) q_X6_init rfl k_151 k_311 (n_X6 l E (k := k + 3) (kf_3_3 hk) (N := 12) (by omega) (lf_3_4 hk) (by rw [va_up, if_pos rfl])) rfl hl.1 rfl (Nat.le_of_ble_eq_true rfl) ⟨Nat.le_of_ble_eq_true rfl, Nat.le_of_ble_eq_true rfl⟩ ⟨Nat.le_of_ble_eq_true rfl, Nat.le_of_ble_eq_true rfl⟩ dX3_init_29 (fun H locs X => ?_)
  rw [NF_fi (by omega) (by omega)] at X
  have X : Hc E (NF E k (k + 5) (.inr (3, [.int (-1), .ref (gB E + (k + 1)), .null, .null, .null, .int 0, .null, .null])) f) (k + 5) s H locs := X
  refine W.cs (cells' := 4) (slots' := 26) rfl rfl ?_
  refine cfX3 C G X (k := k) (by omega) 2 (v := .ref (gB E + (k + 3))) (ty := (.object "PaneStreet$Row")) NF_at (Nat.le_of_ble_eq_true rfl) (by decide) k_317 rfl rfl hin rfl (by decide +kernel) rfl rfl dX3_init_32 (fun H locs X => ?_)
  rw [NF_put] at X
  have X : Hc E (NF E k (k + 5) (.inr (3, [.int (-1), .ref (gB E + (k + 1)), .ref (gB E + (k + 3)), .null, .null, .int 0, .null, .null])) f) (k + 5) s H locs := X
  refine lv_aload_n C.1 C.2.1 dX3_init_35 rfl (lv_at hl 0 rfl) ?_
  refine cnew C G X h0 (by omega) (by omega) inX6 tyX6 tyX6_ok k_310 k_149 k_106 (show vwCl[5]? = some (RX6, TX6, 1) from rfl) (fs := [.null]) (fun j hj => by match j, hj with | 0, _ => rfl | j + 1, h => exact absurd h (by omega)) (Nat.le_of_ble_eq_true rfl) (Nat.le_of_ble_eq_true rfl) dX3_init_36 (fun H X => ?_)
  refine lv_dup C.1 C.2.1 dX3_init_39 rfl ?_
  refine lv_bipush (v := 12) C.1 C.2.1 dX3_init_40 (by decide) ?_
  refine ccall C G hA hB X h0 (by omega) (by omega) q_X6_init rfl k_151 k_311 (n_X6 l E (k := k + 5) (kf_3_5 hk) (N := 12) (by omega) (lf_3_6 hk) (by rw [va_up, if_pos rfl])) rfl hl.1 rfl (Nat.le_of_ble_eq_true rfl) ⟨Nat.le_of_ble_eq_true rfl, Nat.le_of_ble_eq_true rfl⟩ ⟨Nat.le_of_ble_eq_true rfl, Nat.le_of_ble_eq_true rfl⟩ dX3_init_42 (fun H locs X => ?_)
  rw [NF_fi (by omega) (by omega)] at X
  have X : Hc E (NF E k (k + 7) (.inr (3, [.int (-1), .ref (gB E + (k + 1)), .ref (gB E + (k + 3)), .null, .null, .int 0, .null, .null])) f) (k + 7) s H locs := X
  refine W.cs (cells' := 6) (slots' := 39) rfl rfl ?_
  refine cfX3 C G X (k := k) (by omega) 3 (v := .ref (gB E + (k + 5))) (ty := (.object "PaneStreet$Row")) NF_at (Nat.le_of_ble_eq_true rfl) (by decide) k_318 rfl rfl hin rfl (by decide +kernel) rfl rfl dX3_init_45 (fun H locs X => ?_)
  rw [NF_put] at X
  have X : Hc E (NF E k (k + 7) (.inr (3, [.int (-1), .ref (gB E + (k + 1)), .ref (gB E + (k + 3)), .ref (gB E + (k + 5)), .null, .int 0, .null, .null])) f) (k + 7) s H locs := X
  refine lv_aload_n C.1 C.2.1 dX3_init_48 rfl (lv_at hl 0 rfl) ?_
  refine cnew C G X h0 (by omega) (by omega) inX6 tyX6 tyX6_ok k_310 k_149 k_106 (show vwCl[5]? = some (RX6, TX6, 1) from rfl) (fs := [.null]) (fun j hj => by match j, hj with | 0, _ => rfl | j + 1, h => exact absurd h (by omega)) (Nat.le_of_ble_eq_true rfl) (Nat.le_of_ble_eq_true rfl) dX3_init_49 (fun H X => ?_)
  refine lv_dup C.1 C.2.1 dX3_init_52 rfl ?_
  refine lv_sipush (v := 400) C.1 C.2.1 dX3_init_53 (by decide) ?_
  refine ccall C G hA hB X h0 (by omega) (by omega) q_X6_init rfl k_151 k_311 (n_X6 l E (k := k + 7) (kf_3_7 hk) (N := 400) (by omega) (lf_3_8 hk) (by rw [va_up, if_pos rfl])) rfl hl.1 rfl (Nat.le_of_ble_eq_true rfl) ⟨Nat.le_of_ble_eq_true rfl, Nat.le_of_ble_eq_true rfl⟩ ⟨Nat.le_of_ble_eq_true rfl, Nat.le_of_ble_eq_true rfl⟩ dX3_init_56 (fun H locs X => ?_)
  rw [NF_fi (by omega) (by omega)] at X
  have X : Hc E (NF E k (k + 9) (.inr (3, [.int (-1), .ref (gB E + (k + 1)), .ref (gB E + (k + 3)), .ref (gB E + (k + 5)), .null, .int 0, .null, .null])) f) (k + 9) s H locs := X
  refine W.cs (cells' := 8) (slots' := 440) rfl rfl ?_
  refine cfX3 C G X (k := k) (by omega) 4 (v := .ref (gB E + (k + 7))) (ty := (.object "PaneStreet$Row")) NF_at (Nat.le_of_ble_eq_true rfl) (by decide) k_319 rfl rfl hin rfl (by decide +kernel) rfl rfl dX3_init_59 (fun H locs X => ?_)
  rw [NF_put] at X
  have X : Hc E (NF E k (k + 9) (.inr (3, [.int (-1), .ref (gB E + (k + 1)), .ref (gB E + (k + 3)), .ref (gB E + (k + 5)), .ref (gB E + (k + 7)), .int 0, .null, .null])) f) (k + 9) s H locs := X
  refine lv_aload_n C.1 C.2.1 dX3_init_62 rfl (lv_at hl 0 rfl) ?_
  refine cnew C G X h0 (by omega) (by omega) inX6 tyX6 tyX6_ok k_310 k_149 k_106 (show vwCl[5]? = some (RX6, TX6, 1) from rfl) (fs := [.null]) (fun j hj => by match j, hj with | 0, _ => rfl | j + 1, h => exact absurd h (by omega)) (Nat.le_of_ble_eq_true rfl) (Nat.le_of_ble_eq_true rfl) dX3_init_63 (fun H X => ?_)
  refine lv_dup C.1 C.2.1 dX3_init_66 rfl ?_
  refine va_gets C.1 C.2.1 (G.2.2.1.1.1 17 (by decide)).1 X.2 C.hown (C.ts _ k_312) (fun x h => h) dX3_init_67 ?_
  refine va_getE C.1 C.2.1 G.2.2.1.1 (i := 17) (by decide) X.2 C.hown (q := ("PaneStreet$Term", "fact", "I", fctL)) List.mem_cons_self (C.ts _ k_2316) (fun x h => h) dX3_init_70 ?_
  refine lv_iconst (v := 1) C.1 C.2.1 dX3_init_73 (by decide) ?_
  refine lv_iadd C.1 C.2.1 dX3_init_74 ?_
  refine ccall C G hA hB X h0 (by omega) (by omega) q_X6_init rfl k_151 k_311 (n_X6 l E (k := k + 9) (kf_3_9 hk) (N := 9) (by omega) (lf_3_10 hk) (by rw [va_up, if_pos rfl])) rfl hl.1 rfl (Nat.le_of_ble_eq_true rfl) ⟨Nat.le_of_ble_eq_true rfl, Nat.le_of_ble_eq_true rfl⟩ ⟨Nat.le_of_ble_eq_true rfl, Nat.le_of_ble_eq_true rfl⟩ dX3_init_75 (fun H locs X => ?_)
  rw [NF_fi (by omega) (by omega)] at X
  have X : Hc E (NF E k (k + 11) (.inr (3, [.int (-1), .ref (gB E + (k + 1)), .ref (gB E + (k + 3)), .ref (gB E + (k + 5)), .ref (gB E + (k + 7)), .int 0, .null, .null])) f) (k + 11) s H locs := X
  refine W.cs (cells' := 10) (slots' := 450) rfl rfl ?_
  refine cfX3 C G X (k := k) (by omega) 6 (v := .ref (gB E + (k + 9))) (ty := (.object "PaneStreet$Row")) NF_at (Nat.le_of_ble_eq_true rfl) (by decide) k_321 rfl rfl hin rfl (by decide +kernel) rfl rfl dX3_init_78 (fun H locs X => ?_)
  rw [NF_put] at X
  have X : Hc E (NF E k (k + 11) (.inr (3, [.int (-1), .ref (gB E + (k + 1)), .ref (gB E + (k + 3)), .ref (gB E + (k + 5)), .ref (gB E + (k + 7)), .int 0, .ref (gB E + (k + 9)), .null])) f) (k + 11) s H locs := X
  refine lv_aload_n C.1 C.2.1 dX3_init_81 rfl (lv_at hl 0 rfl) ?_
  refine cnew C G X h0 (by omega) (by omega) inX6 tyX6 tyX6_ok k_310 k_149 k_106 (show vwCl[5]? = some (RX6, TX6, 1) from rfl) (fs := [.null]) (fun j hj => by match j, hj with | 0, _ => rfl | j + 1, h => exact absurd h (by omega)) (Nat.le_of_ble_eq_true rfl) (Nat.le_of_ble_eq_true rfl) dX3_init_82 (fun H X => ?_)
  refine lv_dup C.1 C.2.1 dX3_init_85 rfl ?_
  refine lv_bipush (v := 64) C.1 C.2.1 dX3_init_86 (by decide) ?_
  refine ccall C G hA hB X h0 (by omega) (by omega) q_X6_init rfl k_151 k_311 (n_X6 l E (k := k + 11) (kf_3_11 hk) (N := 64) (by omega) (lf_3_12 hk) (by rw [va_up, if_pos rfl])) rfl hl.1 rfl (Nat.le_of_ble_eq_true rfl) ⟨Nat.le_of_ble_eq_true rfl, Nat.le_of_ble_eq_true rfl⟩ ⟨Nat.le_of_ble_eq_true rfl, Nat.le_of_ble_eq_true rfl⟩ dX3_init_88 (fun H locs X => ?_)
  rw [NF_fi (by omega) (by omega)] at X
  have X : Hc E (NF E k (k + 13) (.inr (3, [.int (-1), .ref (gB E + (k + 1)), .ref (gB E + (k + 3)), .ref (gB E + (k + 5)), .ref (gB E + (k + 7)), .int 0, .ref (gB E + (k + 9)), .null])) f) (k + 13) s H locs := X
  refine W.cs (cells' := 12) (slots' := 515) rfl rfl ?_
  refine cfX3 C G X (k := k) (by omega) 7 (v := .ref (gB E + (k + 11))) (ty := (.object "PaneStreet$Row")) NF_at (Nat.le_of_ble_eq_true rfl) (by decide) k_322 rfl rfl hin rfl (by decide +kernel) rfl rfl dX3_init_91 (fun H locs X => ?_)
  rw [NF_put] at X
  have X : Hc E (NF E k (k + 13) (.inr (3, [.int (-1), .ref (gB E + (k + 1)), .ref (gB E + (k + 3)), .ref (gB E + (k + 5)), .ref (gB E + (k + 7)), .int 0, .ref (gB E + (k + 9)), .ref (gB E + (k + 11))])) f) (k + 13) s H locs := X
  exact rtN C X rfl rfl (NF_end (m := 13) (by rw [co_z 3 hk]; rfl) (by omega)) rfl dX3_init_94
set_option maxRecDepth 20000 in
theorem n_X10 (l : Launch) (E : GE) {f : Nat → va_E} (hf : f 1 = .inr (7, [.null, .int 0, .null, .null, .null, .int 0, .int 0])) : CtN l E yX10_init cX10_init 1 5 7 1606 [.ref (gB E + 1)] f (2) (fi E 1 8 f) (9) := by
  refine Met.ofW (cc := cX10_init) (maxL := 1) (ret := none) (by decide) rfl ?_
  intro p e s m args below meth c s₁ B hml hv
  obtain ⟨rfl, G, hA, hB, h0, X⟩ := startC hv
  have C := cxof B hml
  have hin : meth.name = "<init>" := (name_of_methodNamed B.named B.method).1
  have hl := lv_entry [.ref (gB E + 1)] (n := 1) (Nat.le_of_ble_eq_true rfl)
  rw [lg_entry_eq]
  generalize (lg_sl [.ref (gB E + 1)] ++ List.replicate (1 - (lg_sl [.ref (gB E + 1)]).length) Slot.unset).toArray = ls at hl ⊢
  show W p l e (RC 5 7 1606) s m _ below meth c s.heap [] 0 0 (MQ below (va_Qv (fun (_ : Unit) => True) (fun _ t => We' E (fi E 1 8 f) (9) t) (Fr E)) _ s 7 1606 (Fr E)) (F0 m 0 ls [])
  have X : Hc E (NF E 1 (2) (.inr (7, [.null, .int 0, .null, .null, .null, .int 0, .int 0])) f) (2) s s.heap [] := by rw [← NF_0 hf]; exact X
  refine lv_aload_n C.1 C.2.1 dX10_init_0 rfl (lv_at hl 0 rfl) ?_
  refine cobj C hl.1 k_147 k_140 k_141 dX10_init_1 (Nat.le_of_ble_eq_true rfl) (Nat.le_of_ble_eq_true rfl) ?_
  refine lv_aload_n C.1 C.2.1 dX10_init_4 rfl (lv_at hl 0 rfl) ?_
  refine cnew C G X h0 (by omega) (by omega) inX6 tyX6 tyX6_ok k_148 k_149 k_106 (show vwCl[5]? = some (RX6, TX6, 1) from rfl) (fs := [.null]) (fun j hj => by match j, hj with | 0, _ => rfl | j + 1, h => exact absurd h (by omega)) (Nat.le_of_ble_eq_true rfl) (Nat.le_of_ble_eq_true rfl) dX10_init_5 (fun H X => ?_)
  refine lv_dup C.1 C.2.1 dX10_init_8 rfl ?_
  refine lv_sipush (v := 400) C.1 C.2.1 dX10_init_9 (by decide) ?_
  refine ccall C G hA hB X h0 (by omega) (by omega) q_X6_init rfl k_151 k_150 (n_X6 l E (k := 2) (kd_2) (N := 400) (by omega) (ln_3) (by rw [va_up, if_pos rfl])) rfl hl.1 rfl (Nat.le_of_ble_eq_true rfl) ⟨Nat.le_of_ble_eq_true rfl, Nat.le_of_ble_eq_true rfl⟩ ⟨Nat.le_of_ble_eq_true rfl, Nat.le_of_ble_eq_true rfl⟩ dX10_init_12 (fun H locs X => ?_)
  rw [NF_fi (by omega) (by omega)] at X
  have X : Hc E (NF E 1 (4) (.inr (7, [.null, .int 0, .null, .null, .null, .int 0, .int 0])) f) (4) s H locs := X
  refine W.cs (cells' := 2) (slots' := 401) rfl rfl ?_
  refine cfX10 C G X (k := 1) (by omega) 0 (v := .ref (gB E + 2)) (ty := (.object "PaneStreet$Row")) NF_at (Nat.le_of_ble_eq_true rfl) (by decide) k_164 rfl rfl hin rfl (by decide +kernel) rfl rfl dX10_init_15 (fun H locs X => ?_)
  rw [NF_put] at X
  have X : Hc E (NF E 1 (4) (.inr (7, [.ref (gB E + 2), .int 0, .null, .null, .null, .int 0, .int 0])) f) (4) s H locs := X
  refine lv_aload_n C.1 C.2.1 dX10_init_18 rfl (lv_at hl 0 rfl) ?_
  refine lv_sipush (v := 401) C.1 C.2.1 dX10_init_19 (by decide) ?_
  refine cnewQ C G X h0 (by omega) (by omega) (t := 1) rfl k_162 hA (N := 401) (by decide) (by omega) (Nat.le_of_ble_eq_true rfl) (Nat.le_of_ble_eq_true rfl) dX10_init_22 (fun H X => ?_)
  rw [NF_one (by omega) (by rw [co_z 11 kd_4]; show _ = Sum.inl (gT E 1, ln 4, _); rw [ln_4]; rfl)] at X
  have X : Hc E (NF E 1 (5) (.inr (7, [.ref (gB E + 2), .int 0, .null, .null, .null, .int 0, .int 0])) f) (5) s H _ := X
  refine W.cs (cells' := 3) (slots' := 802) rfl rfl ?_
  refine cfX10 C G X (k := 1) (by omega) 2 (v := .ref (gB E + 4)) (ty := (.array (.object "PaneStreet$Term"))) NF_at (Nat.le_of_ble_eq_true rfl) (by decide) k_167 rfl rfl hin rfl (by decide +kernel) rfl rfl dX10_init_25 (fun H locs X => ?_)
  rw [NF_put] at X
  have X : Hc E (NF E 1 (5) (.inr (7, [.ref (gB E + 2), .int 0, .ref (gB E + 4), .null, .null, .int 0, .int 0])) f) (5) s H locs := X
  refine lv_aload_n C.1 C.2.1 dX10_init_28 rfl (lv_at hl 0 rfl) ?_
  refine cnew C G X h0 (by omega) (by omega) inX6 tyX6 tyX6_ok k_148 k_149 k_106 (show vwCl[5]? = some (RX6, TX6, 1) from rfl) (fs := [.null]) (fun j hj => by match j, hj with | 0, _ => rfl | j + 1, h => exact absurd h (by omega)) (Nat.le_of_ble_eq_true rfl) (Nat.le_of_ble_eq_true rfl) dX10_init_29 (fun H X => ?_)
  refine lv_dup C.1 C.2.1 dX10_init_32 rfl ?_
  refine lv_sipush (v := 401) C.1 C.2.1 dX10_init_33 (by decide) ?_
  refine ccall C G hA hB X h0 (by omega) (by omega) q_X6_init rfl k_151 k_150 (n_X6 l E (k := 5) (kd_5) (N := 401) (by omega) (ln_6) (by rw [va_up, if_pos rfl])) rfl hl.1 rfl (Nat.le_of_ble_eq_true rfl) ⟨Nat.le_of_ble_eq_true rfl, Nat.le_of_ble_eq_true rfl⟩ ⟨Nat.le_of_ble_eq_true rfl, Nat.le_of_ble_eq_true rfl⟩ dX10_init_36 (fun H locs X => ?_)
  rw [NF_fi (by omega) (by omega)] at X
  have X : Hc E (NF E 1 (7) (.inr (7, [.ref (gB E + 2), .int 0, .ref (gB E + 4), .null, .null, .int 0, .int 0])) f) (7) s H locs := X
  refine W.cs (cells' := 5) (slots' := 1204) rfl rfl ?_
  refine cfX10 C G X (k := 1) (by omega) 3 (v := .ref (gB E + 5)) (ty := (.object "PaneStreet$Row")) NF_at (Nat.le_of_ble_eq_true rfl) (by decide) k_168 rfl rfl hin rfl (by decide +kernel) rfl rfl dX10_init_39 (fun H locs X => ?_)
  rw [NF_put] at X
  have X : Hc E (NF E 1 (7) (.inr (7, [.ref (gB E + 2), .int 0, .ref (gB E + 4), .ref (gB E + 5), .null, .int 0, .int 0])) f) (7) s H locs := X
  refine lv_aload_n C.1 C.2.1 dX10_init_42 rfl (lv_at hl 0 rfl) ?_
  refine cnew C G X h0 (by omega) (by omega) inX6 tyX6 tyX6_ok k_148 k_149 k_106 (show vwCl[5]? = some (RX6, TX6, 1) from rfl) (fs := [.null]) (fun j hj => by match j, hj with | 0, _ => rfl | j + 1, h => exact absurd h (by omega)) (Nat.le_of_ble_eq_true rfl) (Nat.le_of_ble_eq_true rfl) dX10_init_43 (fun H X => ?_)
  refine lv_dup C.1 C.2.1 dX10_init_46 rfl ?_
  refine lv_sipush (v := 401) C.1 C.2.1 dX10_init_47 (by decide) ?_
  refine ccall C G hA hB X h0 (by omega) (by omega) q_X6_init rfl k_151 k_150 (n_X6 l E (k := 7) (kd_7) (N := 401) (by omega) (ln_8) (by rw [va_up, if_pos rfl])) rfl hl.1 rfl (Nat.le_of_ble_eq_true rfl) ⟨Nat.le_of_ble_eq_true rfl, Nat.le_of_ble_eq_true rfl⟩ ⟨Nat.le_of_ble_eq_true rfl, Nat.le_of_ble_eq_true rfl⟩ dX10_init_50 (fun H locs X => ?_)
  rw [NF_fi (by omega) (by omega)] at X
  have X : Hc E (NF E 1 (9) (.inr (7, [.ref (gB E + 2), .int 0, .ref (gB E + 4), .ref (gB E + 5), .null, .int 0, .int 0])) f) (9) s H locs := X
  refine W.cs (cells' := 7) (slots' := 1606) rfl rfl ?_
  refine cfX10 C G X (k := 1) (by omega) 4 (v := .ref (gB E + 7)) (ty := (.object "PaneStreet$Row")) NF_at (Nat.le_of_ble_eq_true rfl) (by decide) k_169 rfl rfl hin rfl (by decide +kernel) rfl rfl dX10_init_53 (fun H locs X => ?_)
  rw [NF_put] at X
  have X : Hc E (NF E 1 (9) (.inr (7, [.ref (gB E + 2), .int 0, .ref (gB E + 4), .ref (gB E + 5), .ref (gB E + 7), .int 0, .int 0])) f) (9) s H locs := X
  refine lv_aload_n C.1 C.2.1 dX10_init_56 rfl (lv_at hl 0 rfl) ?_
  refine lv_iconst (v := (-1)) C.1 C.2.1 dX10_init_57 (by decide) ?_
  refine cvX10 C G X (k := 1) (by omega) 6 (v := .int (-1)) (ty := .int) NF_at (Nat.le_of_ble_eq_true rfl) (by decide) k_171 rfl rfl (by decide +kernel) rfl rfl dX10_init_58 (fun H locs X => ?_)
  rw [NF_put] at X
  have X : Hc E (NF E 1 (9) (.inr (7, [.ref (gB E + 2), .int 0, .ref (gB E + 4), .ref (gB E + 5), .ref (gB E + 7), .int 0, .int (-1)])) f) (9) s H locs := X
  exact rtN C X rfl rfl (NF_end (m := 8) (by rw [co_z 4 kd_1]; rfl) (by omega)) rfl dX10_init_61
set_option maxRecDepth 20000 in
theorem n_X5 (l : Launch) (E : GE) {f : Nat → va_E} (hf : f 387 = .inr (4, [.null, .null, .null, .null])) : CtN l E yX5_init cX5_init 1 5 8 4724 [.ref (gB E + 387)] f (388) (fi E 387 9 f) (396) := by
  refine Met.ofW (cc := cX5_init) (maxL := 1) (ret := none) (by decide) rfl ?_
  intro p e s m args below meth c s₁ B hml hv
  obtain ⟨rfl, G, hA, hB, h0, X⟩ := startC hv
  have C := cxof B hml
  have hin : meth.name = "<init>" := (name_of_methodNamed B.named B.method).1
  have hl := lv_entry [.ref (gB E + 387)] (n := 1) (Nat.le_of_ble_eq_true rfl)
  rw [lg_entry_eq]
  generalize (lg_sl [.ref (gB E + 387)] ++ List.replicate (1 - (lg_sl [.ref (gB E + 387)]).length) Slot.unset).toArray = ls at hl ⊢
  show W p l e (RC 5 8 4724) s m _ below meth c s.heap [] 0 0 (MQ below (va_Qv (fun (_ : Unit) => True) (fun _ t => We' E (fi E 387 9 f) (396) t) (Fr E)) _ s 8 4724 (Fr E)) (F0 m 0 ls [])
  have X : Hc E (NF E 387 (388) (.inr (4, [.null, .null, .null, .null])) f) (388) s s.heap [] := by rw [← NF_0 hf]; exact X
  refine lv_aload_n C.1 C.2.1 dX5_init_0 rfl (lv_at hl 0 rfl) ?_
  refine cobj C hl.1 k_377 k_140 k_141 dX5_init_1 (Nat.le_of_ble_eq_true rfl) (Nat.le_of_ble_eq_true rfl) ?_
  refine lv_aload_n C.1 C.2.1 dX5_init_4 rfl (lv_at hl 0 rfl) ?_
  refine cnew C G X h0 (by omega) (by omega) inX6 tyX6 tyX6_ok k_378 k_149 k_106 (show vwCl[5]? = some (RX6, TX6, 1) from rfl) (fs := [.null]) (fun j hj => by match j, hj with | 0, _ => rfl | j + 1, h => exact absurd h (by omega)) (Nat.le_of_ble_eq_true rfl) (Nat.le_of_ble_eq_true rfl) dX5_init_5 (fun H X => ?_)
  refine lv_dup C.1 C.2.1 dX5_init_8 rfl ?_
  refine lv_bipush (v := 81) C.1 C.2.1 dX5_init_9 (by decide) ?_
  refine ccall C G hA hB X h0 (by omega) (by omega) q_X6_init rfl k_151 k_379 (n_X6 l E (k := 388) (kd_388) (N := 81) (by omega) (ln_389) (by rw [va_up, if_pos rfl])) rfl hl.1 rfl (Nat.le_of_ble_eq_true rfl) ⟨Nat.le_of_ble_eq_true rfl, Nat.le_of_ble_eq_true rfl⟩ ⟨Nat.le_of_ble_eq_true rfl, Nat.le_of_ble_eq_true rfl⟩ dX5_init_11 (fun H locs X => ?_)
  rw [NF_fi (by omega) (by omega)] at X
  have X : Hc E (NF E 387 (390) (.inr (4, [.null, .null, .null, .null])) f) (390) s H locs := X
  refine W.cs (cells' := 2) (slots' := 82) rfl rfl ?_
  refine cfX5 C G X (k := 387) (by omega) 0 (v := .ref (gB E + 388)) (ty := (.object "PaneStreet$Row")) NF_at (Nat.le_of_ble_eq_true rfl) (by decide) k_380 rfl rfl hin rfl (by decide +kernel) rfl rfl dX5_init_14 (fun H locs X => ?_)
  rw [NF_put] at X
  have X : Hc E (NF E 387 (390) (.inr (4, [.ref (gB E + 388), .null, .null, .null])) f) (390) s H locs := X
  refine lv_aload_n C.1 C.2.1 dX5_init_17 rfl (lv_at hl 0 rfl) ?_
  refine cnew C G X h0 (by omega) (by omega) inX6 tyX6 tyX6_ok k_378 k_149 k_106 (show vwCl[5]? = some (RX6, TX6, 1) from rfl) (fs := [.null]) (fun j hj => by match j, hj with | 0, _ => rfl | j + 1, h => exact absurd h (by omega)) (Nat.le_of_ble_eq_true rfl) (Nat.le_of_ble_eq_true rfl) dX5_init_18 (fun H X => ?_)
  refine lv_dup C.1 C.2.1 dX5_init_21 rfl ?_
  refine lv_sipush (v := 4608) C.1 C.2.1 dX5_init_22 (by decide) ?_
  refine ccall C G hA hB X h0 (by omega) (by omega) q_X6_init rfl k_151 k_379 (n_X6 l E (k := 390) (kd_390) (N := 4608) (by omega) (ln_391) (by rw [va_up, if_pos rfl])) rfl hl.1 rfl (Nat.le_of_ble_eq_true rfl) ⟨Nat.le_of_ble_eq_true rfl, Nat.le_of_ble_eq_true rfl⟩ ⟨Nat.le_of_ble_eq_true rfl, Nat.le_of_ble_eq_true rfl⟩ dX5_init_25 (fun H locs X => ?_)
  rw [NF_fi (by omega) (by omega)] at X
  have X : Hc E (NF E 387 (392) (.inr (4, [.ref (gB E + 388), .null, .null, .null])) f) (392) s H locs := X
  refine W.cs (cells' := 4) (slots' := 4691) rfl rfl ?_
  refine cfX5 C G X (k := 387) (by omega) 1 (v := .ref (gB E + 390)) (ty := (.object "PaneStreet$Row")) NF_at (Nat.le_of_ble_eq_true rfl) (by decide) k_381 rfl rfl hin rfl (by decide +kernel) rfl rfl dX5_init_28 (fun H locs X => ?_)
  rw [NF_put] at X
  have X : Hc E (NF E 387 (392) (.inr (4, [.ref (gB E + 388), .ref (gB E + 390), .null, .null])) f) (392) s H locs := X
  refine lv_aload_n C.1 C.2.1 dX5_init_31 rfl (lv_at hl 0 rfl) ?_
  refine cnew C G X h0 (by omega) (by omega) inX6 tyX6 tyX6_ok k_378 k_149 k_106 (show vwCl[5]? = some (RX6, TX6, 1) from rfl) (fs := [.null]) (fun j hj => by match j, hj with | 0, _ => rfl | j + 1, h => exact absurd h (by omega)) (Nat.le_of_ble_eq_true rfl) (Nat.le_of_ble_eq_true rfl) dX5_init_32 (fun H X => ?_)
  refine lv_dup C.1 C.2.1 dX5_init_35 rfl ?_
  refine lv_bipush (v := 21) C.1 C.2.1 dX5_init_36 (by decide) ?_
  refine ccall C G hA hB X h0 (by omega) (by omega) q_X6_init rfl k_151 k_379 (n_X6 l E (k := 392) (kd_392) (N := 21) (by omega) (ln_393) (by rw [va_up, if_pos rfl])) rfl hl.1 rfl (Nat.le_of_ble_eq_true rfl) ⟨Nat.le_of_ble_eq_true rfl, Nat.le_of_ble_eq_true rfl⟩ ⟨Nat.le_of_ble_eq_true rfl, Nat.le_of_ble_eq_true rfl⟩ dX5_init_38 (fun H locs X => ?_)
  rw [NF_fi (by omega) (by omega)] at X
  have X : Hc E (NF E 387 (394) (.inr (4, [.ref (gB E + 388), .ref (gB E + 390), .null, .null])) f) (394) s H locs := X
  refine W.cs (cells' := 6) (slots' := 4713) rfl rfl ?_
  refine cfX5 C G X (k := 387) (by omega) 2 (v := .ref (gB E + 392)) (ty := (.object "PaneStreet$Row")) NF_at (Nat.le_of_ble_eq_true rfl) (by decide) k_382 rfl rfl hin rfl (by decide +kernel) rfl rfl dX5_init_41 (fun H locs X => ?_)
  rw [NF_put] at X
  have X : Hc E (NF E 387 (394) (.inr (4, [.ref (gB E + 388), .ref (gB E + 390), .ref (gB E + 392), .null])) f) (394) s H locs := X
  refine lv_aload_n C.1 C.2.1 dX5_init_44 rfl (lv_at hl 0 rfl) ?_
  refine cnew C G X h0 (by omega) (by omega) inX6 tyX6 tyX6_ok k_378 k_149 k_106 (show vwCl[5]? = some (RX6, TX6, 1) from rfl) (fs := [.null]) (fun j hj => by match j, hj with | 0, _ => rfl | j + 1, h => exact absurd h (by omega)) (Nat.le_of_ble_eq_true rfl) (Nat.le_of_ble_eq_true rfl) dX5_init_45 (fun H X => ?_)
  refine lv_dup C.1 C.2.1 dX5_init_48 rfl ?_
  refine lv_bipush (v := 10) C.1 C.2.1 dX5_init_49 (by decide) ?_
  refine ccall C G hA hB X h0 (by omega) (by omega) q_X6_init rfl k_151 k_379 (n_X6 l E (k := 394) (kd_394) (N := 10) (by omega) (ln_395) (by rw [va_up, if_pos rfl])) rfl hl.1 rfl (Nat.le_of_ble_eq_true rfl) ⟨Nat.le_of_ble_eq_true rfl, Nat.le_of_ble_eq_true rfl⟩ ⟨Nat.le_of_ble_eq_true rfl, Nat.le_of_ble_eq_true rfl⟩ dX5_init_51 (fun H locs X => ?_)
  rw [NF_fi (by omega) (by omega)] at X
  have X : Hc E (NF E 387 (396) (.inr (4, [.ref (gB E + 388), .ref (gB E + 390), .ref (gB E + 392), .null])) f) (396) s H locs := X
  refine W.cs (cells' := 8) (slots' := 4724) rfl rfl ?_
  refine cfX5 C G X (k := 387) (by omega) 3 (v := .ref (gB E + 394)) (ty := (.object "PaneStreet$Row")) NF_at (Nat.le_of_ble_eq_true rfl) (by decide) k_383 rfl rfl hin rfl (by decide +kernel) rfl rfl dX5_init_54 (fun H locs X => ?_)
  rw [NF_put] at X
  have X : Hc E (NF E 387 (396) (.inr (4, [.ref (gB E + 388), .ref (gB E + 390), .ref (gB E + 392), .ref (gB E + 394)])) f) (396) s H locs := X
  exact rtN C X rfl rfl (NF_end (m := 9) (by rw [co_z 7 kd_387]; rfl) (by omega)) rfl dX5_init_57
set_option maxRecDepth 20000 in
theorem n_X1 (l : Launch) (E : GE) {f : Nat → va_E} (hf : f 396 = .inr (1, [.null])) : CtN l E yX1_init cX1_init 1 5 2 65 [.ref (gB E + 396)] f (397) (fi E 396 3 f) (399) := by
  refine Met.ofW (cc := cX1_init) (maxL := 1) (ret := none) (by decide) rfl ?_
  intro p e s m args below meth c s₁ B hml hv
  obtain ⟨rfl, G, hA, hB, h0, X⟩ := startC hv
  have C := cxof B hml
  have hin : meth.name = "<init>" := (name_of_methodNamed B.named B.method).1
  have hl := lv_entry [.ref (gB E + 396)] (n := 1) (Nat.le_of_ble_eq_true rfl)
  rw [lg_entry_eq]
  generalize (lg_sl [.ref (gB E + 396)] ++ List.replicate (1 - (lg_sl [.ref (gB E + 396)]).length) Slot.unset).toArray = ls at hl ⊢
  show W p l e (RC 5 2 65) s m _ below meth c s.heap [] 0 0 (MQ below (va_Qv (fun (_ : Unit) => True) (fun _ t => We' E (fi E 396 3 f) (399) t) (Fr E)) _ s 2 65 (Fr E)) (F0 m 0 ls [])
  have X : Hc E (NF E 396 (397) (.inr (1, [.null])) f) (397) s s.heap [] := by rw [← NF_0 hf]; exact X
  refine lv_aload_n C.1 C.2.1 dX1_init_0 rfl (lv_at hl 0 rfl) ?_
  refine cobj C hl.1 k_398 k_140 k_141 dX1_init_1 (Nat.le_of_ble_eq_true rfl) (Nat.le_of_ble_eq_true rfl) ?_
  refine lv_aload_n C.1 C.2.1 dX1_init_4 rfl (lv_at hl 0 rfl) ?_
  refine cnew C G X h0 (by omega) (by omega) inX6 tyX6 tyX6_ok k_399 k_149 k_106 (show vwCl[5]? = some (RX6, TX6, 1) from rfl) (fs := [.null]) (fun j hj => by match j, hj with | 0, _ => rfl | j + 1, h => exact absurd h (by omega)) (Nat.le_of_ble_eq_true rfl) (Nat.le_of_ble_eq_true rfl) dX1_init_5 (fun H X => ?_)
  refine lv_dup C.1 C.2.1 dX1_init_8 rfl ?_
  refine lv_bipush (v := 64) C.1 C.2.1 dX1_init_9 (by decide) ?_
  refine ccall C G hA hB X h0 (by omega) (by omega) q_X6_init rfl k_151 k_400 (n_X6 l E (k := 397) (kd_397) (N := 64) (by omega) (ln_398) (by rw [va_up, if_pos rfl])) rfl hl.1 rfl (Nat.le_of_ble_eq_true rfl) ⟨Nat.le_of_ble_eq_true rfl, Nat.le_of_ble_eq_true rfl⟩ ⟨Nat.le_of_ble_eq_true rfl, Nat.le_of_ble_eq_true rfl⟩ dX1_init_11 (fun H locs X => ?_)
  rw [NF_fi (by omega) (by omega)] at X
  have X : Hc E (NF E 396 (399) (.inr (1, [.null])) f) (399) s H locs := X
  refine W.cs (cells' := 2) (slots' := 65) rfl rfl ?_
  refine cfX1 C G X (k := 396) (by omega) 0 (v := .ref (gB E + 397)) (ty := (.object "PaneStreet$Row")) NF_at (Nat.le_of_ble_eq_true rfl) (by decide) k_401 rfl rfl hin rfl (by decide +kernel) rfl rfl dX1_init_14 (fun H locs X => ?_)
  rw [NF_put] at X
  have X : Hc E (NF E 396 (399) (.inr (1, [.ref (gB E + 397)])) f) (399) s H locs := X
  exact rtN C X rfl rfl (NF_end (m := 3) (by rw [co_z 8 kd_396]; rfl) (by omega)) rfl dX1_init_17
set_option maxRecDepth 20000 in
theorem n_X0 (l : Launch) (E : GE) {f : Nat → va_E} (hf : f 365 = .inr (0, [.null])) : CtN l E yX0_init cX0_init 1 7 21 186 [.ref (gB E + 365)] f (366) (fi E 365 22 f) (387) := by
  refine Met.ofW (cc := cX0_init) (maxL := 1) (ret := none) (by decide) rfl ?_
  intro p e s m args below meth c s₁ B hml hv
  obtain ⟨rfl, G, hA, hB, h0, X⟩ := startC hv
  have C := cxof B hml
  have hin : meth.name = "<init>" := (name_of_methodNamed B.named B.method).1
  have hl := lv_entry [.ref (gB E + 365)] (n := 1) (Nat.le_of_ble_eq_true rfl)
  rw [lg_entry_eq]
  generalize (lg_sl [.ref (gB E + 365)] ++ List.replicate (1 - (lg_sl [.ref (gB E + 365)]).length) Slot.unset).toArray = ls at hl ⊢
  show W p l e (RC 7 21 186) s m _ below meth c s.heap [] 0 0 (MQ below (va_Qv (fun (_ : Unit) => True) (fun _ t => We' E (fi E 365 22 f) (387) t) (Fr E)) _ s 21 186 (Fr E)) (F0 m 0 ls [])
  have X : Hc E (NF E 365 (366) (.inr (0, [.null])) f) (366) s s.heap [] := by rw [← NF_0 hf]; exact X
  refine lv_aload_n C.1 C.2.1 dX0_init_0 rfl (lv_at hl 0 rfl) ?_
  refine cobj C hl.1 k_365 k_140 k_141 dX0_init_1 (Nat.le_of_ble_eq_true rfl) (Nat.le_of_ble_eq_true rfl) ?_
  refine lv_aload_n C.1 C.2.1 dX0_init_4 rfl (lv_at hl 0 rfl) ?_
  refine cnew C G X h0 (by omega) (by omega) inX7 tyX7 tyX7_ok k_366 k_191 k_108 (show vwCl[6]? = some (RX7, TX7, 20) from rfl) (fs := [.int 0, .int 0, .int 0, .int 0, .int 0, .int 0, .int 0, .int 0, .int 0, .null, .null, .null, .null, .null, .null, .null, .null, .null, .null, .int 0]) (fun j hj => by match j, hj with | 0, _ => rfl | 1, _ => rfl | 2, _ => rfl | 3, _ => rfl | 4, _ => rfl | 5, _ => rfl | 6, _ => rfl | 7, _ => rfl | 8, _ => rfl | 9, _ => rfl | 10, _ => rfl | 11, _ => rfl | 12, _ => rfl | 13, _ => rfl | 14, _ => rfl | 15, _ => rfl | 16, _ => rfl | 17, _ => rfl | 18, _ => rfl | 19, _ => rfl | j + 20, h => exact absurd h (by omega)) (Nat.le_of_ble_eq_true rfl) (Nat.le_of_ble_eq_true rfl) dX0_init_5 (fun H X => ?_)
  refine lv_dup C.1 C.2.1 dX0_init_8 rfl ?_
  refine ccallN C G hA hB X h0 (by omega) (by omega) q_X7_init rfl k_193 nw_5 (n_X7 l E (k := 366) (kd_366) (by rw [va_up, if_pos rfl])) rfl hl.1 rfl (Nat.le_of_ble_eq_true rfl) ⟨Nat.le_of_ble_eq_true rfl, Nat.le_of_ble_eq_true rfl⟩ ⟨Nat.le_of_ble_eq_true rfl, Nat.le_of_ble_eq_true rfl⟩ dX0_init_9 (fun H locs X => ?_)
  rw [NF_fi (by omega) (by omega)] at X
  have X : Hc E (NF E 365 (387) (.inr (0, [.null])) f) (387) s H locs := X
  refine W.cs (cells' := 21) (slots' := 186) rfl rfl ?_
  refine cfX0 C G X (k := 365) (by omega) 0 (v := .ref (gB E + 366)) (ty := (.object "PaneStreet$Street")) NF_at (Nat.le_of_ble_eq_true rfl) (by decide) k_368 rfl rfl hin rfl (by decide +kernel) rfl rfl dX0_init_12 (fun H locs X => ?_)
  rw [NF_put] at X
  have X : Hc E (NF E 365 (387) (.inr (0, [.ref (gB E + 366)])) f) (387) s H locs := X
  exact rtN C X rfl rfl (NF_end (m := 22) (by rw [co_z 6 kd_365]; rfl) (by omega)) rfl dX0_init_15
theorem kh_ : ∀ i, i < 12 → kd (113 + 21 * i) = 2 := by decide +kernel
def HF (E : GE) (i : Nat) (f : Nat → va_E) : Nat → va_E := fun j => if j = 111 then .inr (2, [.ref (gB E + 112), .int 0, .int 0]) else if j = 112 then .inl (gT E 2, 12, .inr (.inr (.inr (.inr (fun q => if q < i then some (gB E + (113 + 21 * q)) else none))))) else if 112 < j ∧ j < 113 + 21 * i then cellOf E z0 j else f j
theorem HF_next {E : GE} {i : Nat} {f : Nat → va_E} {b : va_E} {g : Nat → Option Nat} (hg : g = fun q => if q < i + 1 then some (gB E + (113 + 21 * q)) else none) : va_up (fi E (113 + 21 * i) 21 (va_up (HF E i f) (113 + 21 * i) b)) 112 (.inl (gT E 2, 12, .inr (.inr (.inr (.inr g))))) = HF E (i + 1) f := by
  funext j
  subst hg
  unfold va_up fi HF
  by_cases h1 : j = 112
  · subst h1; rw [if_pos rfl, if_neg (by decide), if_pos rfl]
  · rw [if_neg h1, if_neg h1]
    by_cases h2 : 113 + 21 * i ≤ j ∧ j < 113 + 21 * i + 21
    · rw [if_pos h2, if_neg (by omega), if_pos (by omega)]
    · rw [if_neg h2]
      dsimp only
      rw [if_neg (show ¬ j = 113 + 21 * i by omega)]
      by_cases h3 : j = 111
      · rw [if_pos h3, if_pos h3]
      · rw [if_neg h3, if_neg h3, if_neg h1]
        by_cases h4 : 112 < j ∧ j < 113 + 21 * i
        · rw [if_pos h4, if_pos (by omega)]
        · rw [if_neg h4, if_neg (by omega)]
section HIST
variable {p : Program} {l : Launch} {e : Env} {R : Room} {s : State} {m : MethodId} {args : Array Value} {below : List Frame} {meth : Method} {c : Code} {H : Heap} {locs : List Loc} {cells slots : Nat} {Q : State → Prop}
variable {cc : ByteArray} {nL pc : Nat} {ls : Array Slot} {rest st0 As : List Value} {E : GE} {f : Nat → va_E} {n n0 : Nat} {own : String} {ret : Option FieldType}
set_option maxRecDepth 20000 in
theorem hist_loop (C : Cx p s m args meth c cX2_init none 2 RX2) (G : Gf E s) (hA : va_AO "PaneStreet$Term" s) (hB : va_AO "PaneStreet$Street" s) (h0 : s.heap.size = gB E + 112) : ∀ (t i : Nat), i + t = 12 → ∀ (H : Heap) (locs : List Loc) (ls : Array Slot), lv_has ls 2 [(1, .int (nI i)), (0, .ref (gB E + 111))] → Hc E (HF E i f) (113 + 21 * i) s H locs → W p l e (RC 7 253 2244) s m args below meth c H locs (1 + 21 * i) (12 + 186 * i) (MQ below (va_Qv (fun (_ : Unit) => True) (fun _ t => We' E (fi E 111 254 f) (111 + 254) t) (Fr E)) args s 253 2244 (Fr E)) (F0 m 15 ls []) := by
  intro t
  induction t with
  | zero =>
    intro i hi H locs ls hl X
    have hi : i = 12 := by omega
    subst hi
    refine lv_iload_n C.1 C.2.1 dX2_init_15 rfl (lv_at hl 0 rfl) ?_
    refine lv_aload_n C.1 C.2.1 dX2_init_16 rfl (lv_at hl 1 rfl) ?_
    refine cgX2 C G X (k := 111) (by omega) 0 (v := .ref (gB E + 112)) (by rw [HF, if_pos rfl]) rfl (by decide) k_349 rfl dX2_init_17 ?_
    refine calenS C G X (k := 112) (by omega) (by rw [HF, if_neg (by decide), if_pos rfl]) dX2_init_20 ?_
    refine lv_icmp_ge (tgt := 43) C.1 C.2.1 dX2_init_21 (by decide) (fun _ => ?_) (fun hn => absurd (by decide) hn)
    have X := X.aext (k := 112) (g' := fun j => some (gB E + (112 + 1 + 21 * j))) (by omega) (by rw [HF, if_neg (by decide), if_pos rfl]) (fun j hj => by rw [if_pos hj])
    refine rtN C X rfl rfl ?_ rfl dX2_init_43
    funext j
    unfold fi va_up HF
    by_cases h1 : j = 112
    · subst h1; rw [if_pos rfl, if_pos (by decide), co_z 12 kd_112, cell0, ln_112]
    · rw [if_neg h1]
      by_cases h3 : j = 111
      · subst h3; rw [if_pos rfl, if_pos (by decide), co_z 5 kd_111]; rfl
      · rw [if_neg h3, if_neg h1]
        by_cases h4 : 112 < j ∧ j < 113 + 21 * 12
        · rw [if_pos h4, if_pos (by omega)]
        · rw [if_neg h4, if_neg (by omega)]
  | succ t ih =>
    intro i hi H locs ls hl X
    refine lv_iload_n C.1 C.2.1 dX2_init_15 rfl (lv_at hl 0 rfl) ?_
    refine lv_aload_n C.1 C.2.1 dX2_init_16 rfl (lv_at hl 1 rfl) ?_
    refine cgX2 C G X (k := 111) (by omega) 0 (v := .ref (gB E + 112)) (by rw [HF, if_pos rfl]) rfl (by decide) k_349 rfl dX2_init_17 ?_
    refine calenS C G X (k := 112) (by omega) (by rw [HF, if_neg (by decide), if_pos rfl]) dX2_init_20 ?_
    refine lv_icmp_ge (tgt := 43) C.1 C.2.1 dX2_init_21 (by decide) (fun hn => absurd hn (nI_ge (b := 12) (a := i) (by omega) (by omega))) (fun _ => ?_)
    refine lv_aload_n C.1 C.2.1 dX2_init_24 rfl (lv_at hl 1 rfl) ?_
    refine cgX2 C G X (k := 111) (by omega) 0 (v := .ref (gB E + 112)) (by rw [HF, if_pos rfl]) rfl (by decide) k_349 rfl dX2_init_25 ?_
    refine lv_iload_n C.1 C.2.1 dX2_init_28 rfl (lv_at hl 0 rfl) ?_
    refine cnew C G X (n := 113 + 21 * i) (n0 := 112) h0 (by omega) (by omega) inX7 tyX7 tyX7_ok k_346 k_191 k_108 (show vwCl[6]? = some (RX7, TX7, 20) from rfl) (fs := [.int 0, .int 0, .int 0, .int 0, .int 0, .int 0, .int 0, .int 0, .int 0, .null, .null, .null, .null, .null, .null, .null, .null, .null, .null, .int 0]) (fun j hj => by match j, hj with | 0, _ => rfl | 1, _ => rfl | 2, _ => rfl | 3, _ => rfl | 4, _ => rfl | 5, _ => rfl | 6, _ => rfl | 7, _ => rfl | 8, _ => rfl | 9, _ => rfl | 10, _ => rfl | 11, _ => rfl | 12, _ => rfl | 13, _ => rfl | 14, _ => rfl | 15, _ => rfl | 16, _ => rfl | 17, _ => rfl | 18, _ => rfl | 19, _ => rfl | j + 20, h => exact absurd h (by omega)) (by show 1 + 21 * i + 1 ≤ 253; omega) (by show 12 + 186 * i + 20 ≤ 2244; omega) dX2_init_29 (fun H X => ?_)
    refine lv_dup C.1 C.2.1 dX2_init_32 rfl ?_
    refine ccallN C G hA hB X (n := 113 + 21 * i + 1) (n0 := 112) h0 (by omega) (by omega) q_X7_init rfl k_193 nw_3 (n_X7 l E (k := 113 + 21 * i) (kh_ i (by omega)) (by rw [va_up, if_pos rfl])) rfl hl.1 rfl (Nat.le_of_ble_eq_true rfl) ⟨Nat.le_of_ble_eq_true rfl, Nat.le_of_ble_eq_true rfl⟩ ⟨by show 1 + 21 * i + 1 + 20 ≤ 253; omega, by show 12 + 186 * i + 20 + 166 ≤ 2244; omega⟩ dX2_init_33 (fun H locs X => ?_)
    refine castS C G X (k := 112) (by omega) (g := fun q => if q < i then some (gB E + (113 + 21 * q)) else none) (by rw [fi, if_neg (by omega), va_up, if_neg (by omega), HF, if_neg (by decide), if_pos rfl]) (i := nI i) (nI_in (by omega) (by omega)) (canyS G X (k := 113 + 21 * i) (by omega) (fs := [.int (zr 2 0), .int (zr 2 1), .int (zr 2 2), .int (zr 2 3), .int (zr 2 4), .int (zr 2 5), .int (zr 2 6), .int (zr 2 7), .int (zr 2 8), .ref (gB E + (113 + 21 * i + 1)), .ref (gB E + (113 + 21 * i + 3)), .ref (gB E + (113 + 21 * i + 5)), .ref (gB E + (113 + 21 * i + 7)), .ref (gB E + (113 + 21 * i + 9)), .ref (gB E + (113 + 21 * i + 11)), .ref (gB E + (113 + 21 * i + 13)), .ref (gB E + (113 + 21 * i + 15)), .ref (gB E + (113 + 21 * i + 17)), .ref (gB E + (113 + 21 * i + 19)), .int (zr 2 19)]) (by rw [fi, if_pos (by omega), co_z 2 (kh_ i (by omega))]; rfl)) dX2_init_36 (fun H locs X => ?_)
    rw [HF_next (by
      rw [nI_clamp (by omega)]
      funext q
      unfold va_up
      by_cases h : q = i
      · subst h; rw [if_pos rfl, if_pos (by omega)]
      · rw [if_neg h]
        dsimp only
        by_cases h2 : q < i
        · rw [if_pos h2, if_pos (by omega)]
        · rw [if_neg h2, if_neg (by omega)])] at X
    refine lv_iinc (v := nI (i + 1)) (lv' := [(1, .int (nI (i + 1))), (0, .ref (gB E + 111))]) C.1 C.2.1 dX2_init_37 hl (k := 0) rfl (nI_succ i).symm (by decide) rfl (fun ls hl => ?_)
    refine lv_goto (tgt := 15) C.1 C.2.1 dX2_init_40 (by decide) ?_
    have hcs : (1 + 21 * i + 1 + 20 = 1 + 21 * (i + 1)) ∧ (12 + 186 * i + 20 + 166 = 12 + 186 * (i + 1)) := by omega
    rw [hcs.1, hcs.2]
    exact ih (i + 1) (by omega) H locs ls hl (by rw [show 113 + 21 * (i + 1) = 113 + 21 * i + 21 by omega]; exact X)
end HIST
set_option maxRecDepth 20000 in
theorem n_X2 (l : Launch) (E : GE) {f : Nat → va_E} (hf : f 111 = .inr (2, [.null, .int 0, .int 0])) : CtN l E yX2_init cX2_init 2 7 253 2244 [.ref (gB E + 111)] f (111 + 1) (fi E 111 254 f) (111 + 254) := by
  refine Met.ofW (cc := cX2_init) (maxL := 2) (ret := none) (by decide) rfl ?_
  intro p e s m args below meth c s₁ B hml hv
  obtain ⟨rfl, G, hA, hB, h0, X⟩ := startC hv
  have C := cxof B hml
  have hin : meth.name = "<init>" := (name_of_methodNamed B.named B.method).1
  have hl := lv_entry [.ref (gB E + 111)] (n := 2) (Nat.le_of_ble_eq_true rfl)
  rw [lg_entry_eq]
  generalize (lg_sl [.ref (gB E + 111)] ++ List.replicate (2 - (lg_sl [.ref (gB E + 111)]).length) Slot.unset).toArray = ls at hl ⊢
  show W p l e (RC 7 253 2244) s m _ below meth c s.heap [] 0 0 (MQ below (va_Qv (fun (_ : Unit) => True) (fun _ t => We' E (fi E 111 254 f) (111 + 254) t) (Fr E)) _ s 253 2244 (Fr E)) (F0 m 0 ls [])
  refine lv_aload_n C.1 C.2.1 dX2_init_0 rfl (lv_at hl 0 rfl) ?_
  refine cobj C hl.1 k_345 k_140 k_141 dX2_init_1 (Nat.le_of_ble_eq_true rfl) (Nat.le_of_ble_eq_true rfl) ?_
  refine lv_aload_n C.1 C.2.1 dX2_init_4 rfl (lv_at hl 0 rfl) ?_
  refine lv_bipush (v := 12) C.1 C.2.1 dX2_init_5 (by decide) ?_
  refine cnewQ C G X h0 (by omega) (by omega) (t := 2) rfl k_346 hB (N := 12) (by decide) (by omega) (Nat.le_of_ble_eq_true rfl) (Nat.le_of_ble_eq_true rfl) dX2_init_7 (fun H X => ?_)
  refine cfX2 C G X (k := 111) (by omega) 0 (v := .ref (gB E + 112)) (ty := (.array (.object "PaneStreet$Street"))) (by rw [va_up, if_neg (by decide), hf]) (Nat.le_of_ble_eq_true rfl) (by decide) k_349 rfl rfl hin rfl (by decide +kernel) rfl rfl dX2_init_10 (fun H locs X => ?_)
  refine lv_iconst (v := 0) C.1 C.2.1 dX2_init_13 (by decide) ?_
  refine lv_istore_n (lv' := [(1, .int (nI 0)), (0, .ref (gB E + 111))]) C.1 C.2.1 dX2_init_14 rfl hl (by decide) rfl (fun ls hl => ?_)
  refine hist_loop C G hA hB h0 12 0 rfl H locs ls hl ?_
  have e9 : HF E 0 f = va_up (va_up f 112 (.inl (gT E 2, 12, .inr (.inr (.inr (.inr (fun _ => none))))))) 111 (.inr (2, [Value.null, .int 0, .int 0].set 0 (.ref (gB E + 112)))) := by
    funext j
    unfold va_up HF
    by_cases h1 : j = 111
    · rw [if_pos h1, if_pos h1]; rfl
    · rw [if_neg h1, if_neg h1]
      by_cases h2 : j = 112
      · rw [if_pos h2, if_pos h2]; rfl
      · rw [if_neg h2, if_neg h2, if_neg (by omega)]
  rw [e9]
  exact X

set_option maxRecDepth 20000 in
theorem n_X11 (l : Launch) (E : GE) {f : Nat → va_E} (hf : f 0 = .inr (8, [.null, .null, .null, .null, .null, .null, .null, .int 0, .null, .null, .null, .null])) : CtN l E yX11_init cX11_init 1 9 398 10968 [.ref (gB E + 0)] f (1) (fi E 0 399 f) (399) := by
  refine Met.ofW (cc := cX11_init) (maxL := 1) (ret := none) (by decide) rfl ?_
  intro p e s m args below meth c s₁ B hml hv
  obtain ⟨rfl, G, hA, hB, h0, X⟩ := startC hv
  have C := cxof B hml
  have hin : meth.name = "<init>" := (name_of_methodNamed B.named B.method).1
  have hl := lv_entry [.ref (gB E + 0)] (n := 1) (Nat.le_of_ble_eq_true rfl)
  rw [lg_entry_eq]
  generalize (lg_sl [.ref (gB E + 0)] ++ List.replicate (1 - (lg_sl [.ref (gB E + 0)]).length) Slot.unset).toArray = ls at hl ⊢
  show W p l e (RC 9 398 10968) s m _ below meth c s.heap [] 0 0 (MQ below (va_Qv (fun (_ : Unit) => True) (fun _ t => We' E (fi E 0 399 f) (399) t) (Fr E)) _ s 398 10968 (Fr E)) (F0 m 0 ls [])
  have X : Hc E (NF E 0 (1) (.inr (8, [.null, .null, .null, .null, .null, .null, .null, .int 0, .null, .null, .null, .null])) f) (1) s s.heap [] := by rw [← NF_0 hf]; exact X
  refine lv_aload_n C.1 C.2.1 dX11_init_0 rfl (lv_at hl 0 rfl) ?_
  refine cobj C hl.1 k_139 k_140 k_141 dX11_init_1 (Nat.le_of_ble_eq_true rfl) (Nat.le_of_ble_eq_true rfl) ?_
  refine lv_aload_n C.1 C.2.1 dX11_init_4 rfl (lv_at hl 0 rfl) ?_
  refine cnew C G X h0 (by omega) (by omega) inX10 tyX10 tyX10_ok k_142 k_143 k_105 (show vwCl[7]? = some (RX10, TX10, 7) from rfl) (fs := [.null, .int 0, .null, .null, .null, .int 0, .int 0]) (fun j hj => by match j, hj with | 0, _ => rfl | 1, _ => rfl | 2, _ => rfl | 3, _ => rfl | 4, _ => rfl | 5, _ => rfl | 6, _ => rfl | j + 7, h => exact absurd h (by omega)) (Nat.le_of_ble_eq_true rfl) (Nat.le_of_ble_eq_true rfl) dX11_init_5 (fun H X => ?_)
  refine lv_dup C.1 C.2.1 dX11_init_8 rfl ?_
  refine ccallN C G hA hB X h0 (by omega) (by omega) q_X10_init rfl k_145 nw_0 (n_X10 l E (by rw [va_up, if_pos rfl])) rfl hl.1 rfl (Nat.le_of_ble_eq_true rfl) ⟨Nat.le_of_ble_eq_true rfl, Nat.le_of_ble_eq_true rfl⟩ ⟨Nat.le_of_ble_eq_true rfl, Nat.le_of_ble_eq_true rfl⟩ dX11_init_9 (fun H locs X => ?_)
  rw [NF_fi (by omega) (by omega)] at X
  have X : Hc E (NF E 0 (9) (.inr (8, [.null, .null, .null, .null, .null, .null, .null, .int 0, .null, .null, .null, .null])) f) (9) s H locs := X
  refine W.cs (cells' := 8) (slots' := 1613) rfl rfl ?_
  refine cfX11 C G X (k := 0) (by omega) 0 (v := .ref (gB E + 1)) (ty := (.object "PaneStreet$Text")) NF_at (Nat.le_of_ble_eq_true rfl) (by decide) k_405 rfl rfl hin rfl (by decide +kernel) rfl rfl dX11_init_12 (fun H locs X => ?_)
  rw [NF_put] at X
  have X : Hc E (NF E 0 (9) (.inr (8, [.ref (gB E + 1), .null, .null, .null, .null, .null, .null, .int 0, .null, .null, .null, .null])) f) (9) s H locs := X
  refine lv_aload_n C.1 C.2.1 dX11_init_15 rfl (lv_at hl 0 rfl) ?_
  refine cnew C G X h0 (by omega) (by omega) inX7 tyX7 tyX7_ok k_190 k_191 k_108 (show vwCl[6]? = some (RX7, TX7, 20) from rfl) (fs := [.int 0, .int 0, .int 0, .int 0, .int 0, .int 0, .int 0, .int 0, .int 0, .null, .null, .null, .null, .null, .null, .null, .null, .null, .null, .int 0]) (fun j hj => by match j, hj with | 0, _ => rfl | 1, _ => rfl | 2, _ => rfl | 3, _ => rfl | 4, _ => rfl | 5, _ => rfl | 6, _ => rfl | 7, _ => rfl | 8, _ => rfl | 9, _ => rfl | 10, _ => rfl | 11, _ => rfl | 12, _ => rfl | 13, _ => rfl | 14, _ => rfl | 15, _ => rfl | 16, _ => rfl | 17, _ => rfl | 18, _ => rfl | 19, _ => rfl | j + 20, h => exact absurd h (by omega)) (Nat.le_of_ble_eq_true rfl) (Nat.le_of_ble_eq_true rfl) dX11_init_16 (fun H X => ?_)
  refine lv_dup C.1 C.2.1 dX11_init_19 rfl ?_
  refine ccallN C G hA hB X h0 (by omega) (by omega) q_X7_init rfl k_193 nw_1 (n_X7 l E (k := 9) (kd_9) (by rw [va_up, if_pos rfl])) rfl hl.1 rfl (Nat.le_of_ble_eq_true rfl) ⟨Nat.le_of_ble_eq_true rfl, Nat.le_of_ble_eq_true rfl⟩ ⟨Nat.le_of_ble_eq_true rfl, Nat.le_of_ble_eq_true rfl⟩ dX11_init_20 (fun H locs X => ?_)
  rw [NF_fi (by omega) (by omega)] at X
  have X : Hc E (NF E 0 (30) (.inr (8, [.ref (gB E + 1), .null, .null, .null, .null, .null, .null, .int 0, .null, .null, .null, .null])) f) (30) s H locs := X
  refine W.cs (cells' := 29) (slots' := 1799) rfl rfl ?_
  refine cfX11 C G X (k := 0) (by omega) 1 (v := .ref (gB E + 9)) (ty := (.object "PaneStreet$Street")) NF_at (Nat.le_of_ble_eq_true rfl) (by decide) k_406 rfl rfl hin rfl (by decide +kernel) rfl rfl dX11_init_23 (fun H locs X => ?_)
  rw [NF_put] at X
  have X : Hc E (NF E 0 (30) (.inr (8, [.ref (gB E + 1), .ref (gB E + 9), .null, .null, .null, .null, .null, .int 0, .null, .null, .null, .null])) f) (30) s H locs := X
  refine lv_aload_n C.1 C.2.1 dX11_init_26 rfl (lv_at hl 0 rfl) ?_
  refine cnew C G X h0 (by omega) (by omega) inX7 tyX7 tyX7_ok k_190 k_191 k_108 (show vwCl[6]? = some (RX7, TX7, 20) from rfl) (fs := [.int 0, .int 0, .int 0, .int 0, .int 0, .int 0, .int 0, .int 0, .int 0, .null, .null, .null, .null, .null, .null, .null, .null, .null, .null, .int 0]) (fun j hj => by match j, hj with | 0, _ => rfl | 1, _ => rfl | 2, _ => rfl | 3, _ => rfl | 4, _ => rfl | 5, _ => rfl | 6, _ => rfl | 7, _ => rfl | 8, _ => rfl | 9, _ => rfl | 10, _ => rfl | 11, _ => rfl | 12, _ => rfl | 13, _ => rfl | 14, _ => rfl | 15, _ => rfl | 16, _ => rfl | 17, _ => rfl | 18, _ => rfl | 19, _ => rfl | j + 20, h => exact absurd h (by omega)) (Nat.le_of_ble_eq_true rfl) (Nat.le_of_ble_eq_true rfl) dX11_init_27 (fun H X => ?_)
  refine lv_dup C.1 C.2.1 dX11_init_30 rfl ?_
  refine ccallN C G hA hB X h0 (by omega) (by omega) q_X7_init rfl k_193 nw_1 (n_X7 l E (k := 30) (kd_30) (by rw [va_up, if_pos rfl])) rfl hl.1 rfl (Nat.le_of_ble_eq_true rfl) ⟨Nat.le_of_ble_eq_true rfl, Nat.le_of_ble_eq_true rfl⟩ ⟨Nat.le_of_ble_eq_true rfl, Nat.le_of_ble_eq_true rfl⟩ dX11_init_31 (fun H locs X => ?_)
  rw [NF_fi (by omega) (by omega)] at X
  have X : Hc E (NF E 0 (51) (.inr (8, [.ref (gB E + 1), .ref (gB E + 9), .null, .null, .null, .null, .null, .int 0, .null, .null, .null, .null])) f) (51) s H locs := X
  refine W.cs (cells' := 50) (slots' := 1985) rfl rfl ?_
  refine cfX11 C G X (k := 0) (by omega) 2 (v := .ref (gB E + 30)) (ty := (.object "PaneStreet$Street")) NF_at (Nat.le_of_ble_eq_true rfl) (by decide) k_407 rfl rfl hin rfl (by decide +kernel) rfl rfl dX11_init_34 (fun H locs X => ?_)
  rw [NF_put] at X
  have X : Hc E (NF E 0 (51) (.inr (8, [.ref (gB E + 1), .ref (gB E + 9), .ref (gB E + 30), .null, .null, .null, .null, .int 0, .null, .null, .null, .null])) f) (51) s H locs := X
  refine lv_aload_n C.1 C.2.1 dX11_init_37 rfl (lv_at hl 0 rfl) ?_
  refine cnew C G X h0 (by omega) (by omega) inX7 tyX7 tyX7_ok k_190 k_191 k_108 (show vwCl[6]? = some (RX7, TX7, 20) from rfl) (fs := [.int 0, .int 0, .int 0, .int 0, .int 0, .int 0, .int 0, .int 0, .int 0, .null, .null, .null, .null, .null, .null, .null, .null, .null, .null, .int 0]) (fun j hj => by match j, hj with | 0, _ => rfl | 1, _ => rfl | 2, _ => rfl | 3, _ => rfl | 4, _ => rfl | 5, _ => rfl | 6, _ => rfl | 7, _ => rfl | 8, _ => rfl | 9, _ => rfl | 10, _ => rfl | 11, _ => rfl | 12, _ => rfl | 13, _ => rfl | 14, _ => rfl | 15, _ => rfl | 16, _ => rfl | 17, _ => rfl | 18, _ => rfl | 19, _ => rfl | j + 20, h => exact absurd h (by omega)) (Nat.le_of_ble_eq_true rfl) (Nat.le_of_ble_eq_true rfl) dX11_init_38 (fun H X => ?_)
  refine lv_dup C.1 C.2.1 dX11_init_41 rfl ?_
  refine ccallN C G hA hB X h0 (by omega) (by omega) q_X7_init rfl k_193 nw_1 (n_X7 l E (k := 51) (kd_51) (by rw [va_up, if_pos rfl])) rfl hl.1 rfl (Nat.le_of_ble_eq_true rfl) ⟨Nat.le_of_ble_eq_true rfl, Nat.le_of_ble_eq_true rfl⟩ ⟨Nat.le_of_ble_eq_true rfl, Nat.le_of_ble_eq_true rfl⟩ dX11_init_42 (fun H locs X => ?_)
  rw [NF_fi (by omega) (by omega)] at X
  have X : Hc E (NF E 0 (72) (.inr (8, [.ref (gB E + 1), .ref (gB E + 9), .ref (gB E + 30), .null, .null, .null, .null, .int 0, .null, .null, .null, .null])) f) (72) s H locs := X
  refine W.cs (cells' := 71) (slots' := 2171) rfl rfl ?_
  refine cfX11 C G X (k := 0) (by omega) 3 (v := .ref (gB E + 51)) (ty := (.object "PaneStreet$Street")) NF_at (Nat.le_of_ble_eq_true rfl) (by decide) k_408 rfl rfl hin rfl (by decide +kernel) rfl rfl dX11_init_45 (fun H locs X => ?_)
  rw [NF_put] at X
  have X : Hc E (NF E 0 (72) (.inr (8, [.ref (gB E + 1), .ref (gB E + 9), .ref (gB E + 30), .ref (gB E + 51), .null, .null, .null, .int 0, .null, .null, .null, .null])) f) (72) s H locs := X
  refine lv_aload_n C.1 C.2.1 dX11_init_48 rfl (lv_at hl 0 rfl) ?_
  refine cnew C G X h0 (by omega) (by omega) inX3 tyX3 tyX3_ok k_304 k_305 k_109 (show vwCl[3]? = some (RX3, TX3, 8) from rfl) (fs := [.int 0, .null, .null, .null, .null, .int 0, .null, .null]) (fun j hj => by match j, hj with | 0, _ => rfl | 1, _ => rfl | 2, _ => rfl | 3, _ => rfl | 4, _ => rfl | 5, _ => rfl | 6, _ => rfl | 7, _ => rfl | j + 8, h => exact absurd h (by omega)) (Nat.le_of_ble_eq_true rfl) (Nat.le_of_ble_eq_true rfl) dX11_init_49 (fun H X => ?_)
  refine lv_dup C.1 C.2.1 dX11_init_52 rfl ?_
  refine ccallN C G hA hB X h0 (by omega) (by omega) q_X3_init rfl k_307 nw_2 (n_X3 l E (k := 72) (kd_72) (by rw [va_up, if_pos rfl])) rfl hl.1 rfl (Nat.le_of_ble_eq_true rfl) ⟨Nat.le_of_ble_eq_true rfl, Nat.le_of_ble_eq_true rfl⟩ ⟨Nat.le_of_ble_eq_true rfl, Nat.le_of_ble_eq_true rfl⟩ dX11_init_53 (fun H locs X => ?_)
  rw [NF_fi (by omega) (by omega)] at X
  have X : Hc E (NF E 0 (85) (.inr (8, [.ref (gB E + 1), .ref (gB E + 9), .ref (gB E + 30), .ref (gB E + 51), .null, .null, .null, .int 0, .null, .null, .null, .null])) f) (85) s H locs := X
  refine W.cs (cells' := 84) (slots' := 2694) rfl rfl ?_
  refine cfX11 C G X (k := 0) (by omega) 4 (v := .ref (gB E + 72)) (ty := (.object "PaneStreet$Law")) NF_at (Nat.le_of_ble_eq_true rfl) (by decide) k_409 rfl rfl hin rfl (by decide +kernel) rfl rfl dX11_init_56 (fun H locs X => ?_)
  rw [NF_put] at X
  have X : Hc E (NF E 0 (85) (.inr (8, [.ref (gB E + 1), .ref (gB E + 9), .ref (gB E + 30), .ref (gB E + 51), .ref (gB E + 72), .null, .null, .int 0, .null, .null, .null, .null])) f) (85) s H locs := X
  refine lv_aload_n C.1 C.2.1 dX11_init_59 rfl (lv_at hl 0 rfl) ?_
  refine cnew C G X h0 (by omega) (by omega) inX3 tyX3 tyX3_ok k_304 k_305 k_109 (show vwCl[3]? = some (RX3, TX3, 8) from rfl) (fs := [.int 0, .null, .null, .null, .null, .int 0, .null, .null]) (fun j hj => by match j, hj with | 0, _ => rfl | 1, _ => rfl | 2, _ => rfl | 3, _ => rfl | 4, _ => rfl | 5, _ => rfl | 6, _ => rfl | 7, _ => rfl | j + 8, h => exact absurd h (by omega)) (Nat.le_of_ble_eq_true rfl) (Nat.le_of_ble_eq_true rfl) dX11_init_60 (fun H X => ?_)
  refine lv_dup C.1 C.2.1 dX11_init_63 rfl ?_
  refine ccallN C G hA hB X h0 (by omega) (by omega) q_X3_init rfl k_307 nw_2 (n_X3 l E (k := 85) (kd_85) (by rw [va_up, if_pos rfl])) rfl hl.1 rfl (Nat.le_of_ble_eq_true rfl) ⟨Nat.le_of_ble_eq_true rfl, Nat.le_of_ble_eq_true rfl⟩ ⟨Nat.le_of_ble_eq_true rfl, Nat.le_of_ble_eq_true rfl⟩ dX11_init_64 (fun H locs X => ?_)
  rw [NF_fi (by omega) (by omega)] at X
  have X : Hc E (NF E 0 (98) (.inr (8, [.ref (gB E + 1), .ref (gB E + 9), .ref (gB E + 30), .ref (gB E + 51), .ref (gB E + 72), .null, .null, .int 0, .null, .null, .null, .null])) f) (98) s H locs := X
  refine W.cs (cells' := 97) (slots' := 3217) rfl rfl ?_
  refine cfX11 C G X (k := 0) (by omega) 5 (v := .ref (gB E + 85)) (ty := (.object "PaneStreet$Law")) NF_at (Nat.le_of_ble_eq_true rfl) (by decide) k_410 rfl rfl hin rfl (by decide +kernel) rfl rfl dX11_init_67 (fun H locs X => ?_)
  rw [NF_put] at X
  have X : Hc E (NF E 0 (98) (.inr (8, [.ref (gB E + 1), .ref (gB E + 9), .ref (gB E + 30), .ref (gB E + 51), .ref (gB E + 72), .ref (gB E + 85), .null, .int 0, .null, .null, .null, .null])) f) (98) s H locs := X
  refine lv_aload_n C.1 C.2.1 dX11_init_70 rfl (lv_at hl 0 rfl) ?_
  refine cnew C G X h0 (by omega) (by omega) inX3 tyX3 tyX3_ok k_304 k_305 k_109 (show vwCl[3]? = some (RX3, TX3, 8) from rfl) (fs := [.int 0, .null, .null, .null, .null, .int 0, .null, .null]) (fun j hj => by match j, hj with | 0, _ => rfl | 1, _ => rfl | 2, _ => rfl | 3, _ => rfl | 4, _ => rfl | 5, _ => rfl | 6, _ => rfl | 7, _ => rfl | j + 8, h => exact absurd h (by omega)) (Nat.le_of_ble_eq_true rfl) (Nat.le_of_ble_eq_true rfl) dX11_init_71 (fun H X => ?_)
  refine lv_dup C.1 C.2.1 dX11_init_74 rfl ?_
  refine ccallN C G hA hB X h0 (by omega) (by omega) q_X3_init rfl k_307 nw_2 (n_X3 l E (k := 98) (kd_98) (by rw [va_up, if_pos rfl])) rfl hl.1 rfl (Nat.le_of_ble_eq_true rfl) ⟨Nat.le_of_ble_eq_true rfl, Nat.le_of_ble_eq_true rfl⟩ ⟨Nat.le_of_ble_eq_true rfl, Nat.le_of_ble_eq_true rfl⟩ dX11_init_75 (fun H locs X => ?_)
  rw [NF_fi (by omega) (by omega)] at X
  have X : Hc E (NF E 0 (111) (.inr (8, [.ref (gB E + 1), .ref (gB E + 9), .ref (gB E + 30), .ref (gB E + 51), .ref (gB E + 72), .ref (gB E + 85), .null, .int 0, .null, .null, .null, .null])) f) (111) s H locs := X
  refine W.cs (cells' := 110) (slots' := 3740) rfl rfl ?_
  refine cfX11 C G X (k := 0) (by omega) 6 (v := .ref (gB E + 98)) (ty := (.object "PaneStreet$Law")) NF_at (Nat.le_of_ble_eq_true rfl) (by decide) k_411 rfl rfl hin rfl (by decide +kernel) rfl rfl dX11_init_78 (fun H locs X => ?_)
  rw [NF_put] at X
  have X : Hc E (NF E 0 (111) (.inr (8, [.ref (gB E + 1), .ref (gB E + 9), .ref (gB E + 30), .ref (gB E + 51), .ref (gB E + 72), .ref (gB E + 85), .ref (gB E + 98), .int 0, .null, .null, .null, .null])) f) (111) s H locs := X
  refine lv_aload_n C.1 C.2.1 dX11_init_81 rfl (lv_at hl 0 rfl) ?_
  refine cnew C G X h0 (by omega) (by omega) inX2 tyX2 tyX2_ok k_340 k_341 k_112 (show vwCl[2]? = some (RX2, TX2, 3) from rfl) (fs := [.null, .int 0, .int 0]) (fun j hj => by match j, hj with | 0, _ => rfl | 1, _ => rfl | 2, _ => rfl | j + 3, h => exact absurd h (by omega)) (Nat.le_of_ble_eq_true rfl) (Nat.le_of_ble_eq_true rfl) dX11_init_82 (fun H X => ?_)
  refine lv_dup C.1 C.2.1 dX11_init_85 rfl ?_
  refine ccall C G hA hB X h0 (by omega) (by omega) q_X2_init rfl k_343 k_342 (n_X2 l E (by rw [va_up, if_pos rfl])) rfl hl.1 rfl (Nat.le_of_ble_eq_true rfl) ⟨Nat.le_of_ble_eq_true rfl, Nat.le_of_ble_eq_true rfl⟩ ⟨Nat.le_of_ble_eq_true rfl, Nat.le_of_ble_eq_true rfl⟩ dX11_init_86 (fun H locs X => ?_)
  rw [NF_fi (by omega) (by omega)] at X
  have X : Hc E (NF E 0 (365) (.inr (8, [.ref (gB E + 1), .ref (gB E + 9), .ref (gB E + 30), .ref (gB E + 51), .ref (gB E + 72), .ref (gB E + 85), .ref (gB E + 98), .int 0, .null, .null, .null, .null])) f) (365) s H locs := X
  refine W.cs (cells' := 364) (slots' := 5987) rfl rfl ?_
  refine cfX11 C G X (k := 0) (by omega) 8 (v := .ref (gB E + 111)) (ty := (.object "PaneStreet$History")) NF_at (Nat.le_of_ble_eq_true rfl) (by decide) k_413 rfl rfl hin rfl (by decide +kernel) rfl rfl dX11_init_89 (fun H locs X => ?_)
  rw [NF_put] at X
  have X : Hc E (NF E 0 (365) (.inr (8, [.ref (gB E + 1), .ref (gB E + 9), .ref (gB E + 30), .ref (gB E + 51), .ref (gB E + 72), .ref (gB E + 85), .ref (gB E + 98), .int 0, .ref (gB E + 111), .null, .null, .null])) f) (365) s H locs := X
  refine lv_aload_n C.1 C.2.1 dX11_init_92 rfl (lv_at hl 0 rfl) ?_
  refine cnew C G X h0 (by omega) (by omega) inX0 tyX0 tyX0_ok k_360 k_361 k_113 (show vwCl[0]? = some (RX0, TX0, 1) from rfl) (fs := [.null]) (fun j hj => by match j, hj with | 0, _ => rfl | j + 1, h => exact absurd h (by omega)) (Nat.le_of_ble_eq_true rfl) (Nat.le_of_ble_eq_true rfl) dX11_init_93 (fun H X => ?_)
  refine lv_dup C.1 C.2.1 dX11_init_96 rfl ?_
  refine ccallN C G hA hB X h0 (by omega) (by omega) q_X0_init rfl k_363 nw_4 (n_X0 l E (by rw [va_up, if_pos rfl])) rfl hl.1 rfl (Nat.le_of_ble_eq_true rfl) ⟨Nat.le_of_ble_eq_true rfl, Nat.le_of_ble_eq_true rfl⟩ ⟨Nat.le_of_ble_eq_true rfl, Nat.le_of_ble_eq_true rfl⟩ dX11_init_97 (fun H locs X => ?_)
  rw [NF_fi (by omega) (by omega)] at X
  have X : Hc E (NF E 0 (387) (.inr (8, [.ref (gB E + 1), .ref (gB E + 9), .ref (gB E + 30), .ref (gB E + 51), .ref (gB E + 72), .ref (gB E + 85), .ref (gB E + 98), .int 0, .ref (gB E + 111), .null, .null, .null])) f) (387) s H locs := X
  refine W.cs (cells' := 386) (slots' := 6174) rfl rfl ?_
  refine cfX11 C G X (k := 0) (by omega) 9 (v := .ref (gB E + 365)) (ty := (.object "PaneStreet$Clock")) NF_at (Nat.le_of_ble_eq_true rfl) (by decide) k_414 rfl rfl hin rfl (by decide +kernel) rfl rfl dX11_init_100 (fun H locs X => ?_)
  rw [NF_put] at X
  have X : Hc E (NF E 0 (387) (.inr (8, [.ref (gB E + 1), .ref (gB E + 9), .ref (gB E + 30), .ref (gB E + 51), .ref (gB E + 72), .ref (gB E + 85), .ref (gB E + 98), .int 0, .ref (gB E + 111), .ref (gB E + 365), .null, .null])) f) (387) s H locs := X
  refine lv_aload_n C.1 C.2.1 dX11_init_103 rfl (lv_at hl 0 rfl) ?_
  refine cnew C G X h0 (by omega) (by omega) inX5 tyX5 tyX5_ok k_372 k_373 k_114 (show vwCl[4]? = some (RX5, TX5, 4) from rfl) (fs := [.null, .null, .null, .null]) (fun j hj => by match j, hj with | 0, _ => rfl | 1, _ => rfl | 2, _ => rfl | 3, _ => rfl | j + 4, h => exact absurd h (by omega)) (Nat.le_of_ble_eq_true rfl) (Nat.le_of_ble_eq_true rfl) dX11_init_104 (fun H X => ?_)
  refine lv_dup C.1 C.2.1 dX11_init_107 rfl ?_
  refine ccallN C G hA hB X h0 (by omega) (by omega) q_X5_init rfl k_375 nw_6 (n_X5 l E (by rw [va_up, if_pos rfl])) rfl hl.1 rfl (Nat.le_of_ble_eq_true rfl) ⟨Nat.le_of_ble_eq_true rfl, Nat.le_of_ble_eq_true rfl⟩ ⟨Nat.le_of_ble_eq_true rfl, Nat.le_of_ble_eq_true rfl⟩ dX11_init_108 (fun H locs X => ?_)
  rw [NF_fi (by omega) (by omega)] at X
  have X : Hc E (NF E 0 (396) (.inr (8, [.ref (gB E + 1), .ref (gB E + 9), .ref (gB E + 30), .ref (gB E + 51), .ref (gB E + 72), .ref (gB E + 85), .ref (gB E + 98), .int 0, .ref (gB E + 111), .ref (gB E + 365), .null, .null])) f) (396) s H locs := X
  refine W.cs (cells' := 395) (slots' := 10902) rfl rfl ?_
  refine cfX11 C G X (k := 0) (by omega) 10 (v := .ref (gB E + 387)) (ty := (.object "PaneStreet$Net")) NF_at (Nat.le_of_ble_eq_true rfl) (by decide) k_415 rfl rfl hin rfl (by decide +kernel) rfl rfl dX11_init_111 (fun H locs X => ?_)
  rw [NF_put] at X
  have X : Hc E (NF E 0 (396) (.inr (8, [.ref (gB E + 1), .ref (gB E + 9), .ref (gB E + 30), .ref (gB E + 51), .ref (gB E + 72), .ref (gB E + 85), .ref (gB E + 98), .int 0, .ref (gB E + 111), .ref (gB E + 365), .ref (gB E + 387), .null])) f) (396) s H locs := X
  refine lv_aload_n C.1 C.2.1 dX11_init_114 rfl (lv_at hl 0 rfl) ?_
  refine cnew C G X h0 (by omega) (by omega) inX1 tyX1 tyX1_ok k_393 k_394 k_115 (show vwCl[1]? = some (RX1, TX1, 1) from rfl) (fs := [.null]) (fun j hj => by match j, hj with | 0, _ => rfl | j + 1, h => exact absurd h (by omega)) (Nat.le_of_ble_eq_true rfl) (Nat.le_of_ble_eq_true rfl) dX11_init_115 (fun H X => ?_)
  refine lv_dup C.1 C.2.1 dX11_init_118 rfl ?_
  refine ccallN C G hA hB X h0 (by omega) (by omega) q_X1_init rfl k_396 nw_7 (n_X1 l E (by rw [va_up, if_pos rfl])) rfl hl.1 rfl (Nat.le_of_ble_eq_true rfl) ⟨Nat.le_of_ble_eq_true rfl, Nat.le_of_ble_eq_true rfl⟩ ⟨Nat.le_of_ble_eq_true rfl, Nat.le_of_ble_eq_true rfl⟩ dX11_init_119 (fun H locs X => ?_)
  rw [NF_fi (by omega) (by omega)] at X
  have X : Hc E (NF E 0 (399) (.inr (8, [.ref (gB E + 1), .ref (gB E + 9), .ref (gB E + 30), .ref (gB E + 51), .ref (gB E + 72), .ref (gB E + 85), .ref (gB E + 98), .int 0, .ref (gB E + 111), .ref (gB E + 365), .ref (gB E + 387), .null])) f) (399) s H locs := X
  refine W.cs (cells' := 398) (slots' := 10968) rfl rfl ?_
  refine cfX11 C G X (k := 0) (by omega) 11 (v := .ref (gB E + 396)) (ty := (.object "PaneStreet$Favours")) NF_at (Nat.le_of_ble_eq_true rfl) (by decide) k_416 rfl rfl hin rfl (by decide +kernel) rfl rfl dX11_init_122 (fun H locs X => ?_)
  rw [NF_put] at X
  have X : Hc E (NF E 0 (399) (.inr (8, [.ref (gB E + 1), .ref (gB E + 9), .ref (gB E + 30), .ref (gB E + 51), .ref (gB E + 72), .ref (gB E + 85), .ref (gB E + 98), .int 0, .ref (gB E + 111), .ref (gB E + 365), .ref (gB E + 387), .ref (gB E + 396)])) f) (399) s H locs := X
  exact rtN C X rfl rfl (NF_end (m := 399) (by rw [co_z 9 kd_0]; rfl) (by omega)) rfl dX11_init_125
set_option maxRecDepth 20000 in
theorem n_X12 (l : Launch) (E : GE) {f : Nat → va_E} (hf : f 399 = .inr (9, [.int 0, .null, .null, .int 0, .null, .null, .int 0, .null, .int 0, .int 0, .int 0, .int 0, .int 0, .int 0, .null, .int 0, .int 0, .int 0, .null, .null, .null, .null, .null])) : CtN l E yX12_init cX12_init 1 3 11 11066 [.ref (gB E + 399)] f (400) (fi1 E f) (411) := by
  refine Met.ofW (cc := cX12_init) (maxL := 1) (ret := none) (by decide) rfl ?_
  intro p e s m args below meth c s₁ B hml hv
  obtain ⟨rfl, G, hA, hB, h0, X⟩ := startC hv
  have C := cxof B hml
  have hin : meth.name = "<init>" := (name_of_methodNamed B.named B.method).1
  have hl := lv_entry [.ref (gB E + 399)] (n := 1) (Nat.le_of_ble_eq_true rfl)
  rw [lg_entry_eq]
  generalize (lg_sl [.ref (gB E + 399)] ++ List.replicate (1 - (lg_sl [.ref (gB E + 399)]).length) Slot.unset).toArray = ls at hl ⊢
  show W p l e (RC 3 11 11066) s m _ below meth c s.heap [] 0 0 (MQ below (va_Qv (fun (_ : Unit) => True) (fun _ t => We' E (fi1 E f) (411) t) (Fr E)) _ s 11 11066 (Fr E)) (F0 m 0 ls [])
  have X : Hc E (NF E 399 (400) (.inr (9, [.int 0, .null, .null, .int 0, .null, .null, .int 0, .null, .int 0, .int 0, .int 0, .int 0, .int 0, .int 0, .null, .int 0, .int 0, .int 0, .null, .null, .null, .null, .null])) f) (400) s s.heap [] := by rw [← NF_0 hf]; exact X
  refine lv_aload_n C.1 C.2.1 dX12_init_0 rfl (lv_at hl 0 rfl) ?_
  refine cobj C hl.1 k_1650 k_140 k_141 dX12_init_1 (Nat.le_of_ble_eq_true rfl) (Nat.le_of_ble_eq_true rfl) ?_
  refine lv_aload_n C.1 C.2.1 dX12_init_4 rfl (lv_at hl 0 rfl) ?_
  refine lv_sipush (v := 888) C.1 C.2.1 dX12_init_5 (by decide) ?_
  refine cnewI C G X h0 (by omega) (by omega) k_161 (N := 888) (by decide) (by omega) (Nat.le_of_ble_eq_true rfl) (Nat.le_of_ble_eq_true rfl) dX12_init_8 (fun H X => ?_)
  rw [NF_one (by omega) (by rw [co_z 0 (kd_400)]; show _ = Sum.inl (gT E 0, ln (400), _); rw [ln_400]; rfl)] at X
  have X : Hc E (NF E 399 (401) (.inr (9, [.int 0, .null, .null, .int 0, .null, .null, .int 0, .null, .int 0, .int 0, .int 0, .int 0, .int 0, .int 0, .null, .int 0, .int 0, .int 0, .null, .null, .null, .null, .null])) f) (401) s H _ := X
  refine W.cs (cells' := 1) (slots' := 888) rfl rfl ?_
  refine cfX12 C G X (k := 399) (by omega) 1 (v := .ref (gB E + 400)) (ty := (.array .int)) NF_at (Nat.le_of_ble_eq_true rfl) (by decide) k_1652 rfl rfl hin rfl (by decide +kernel) rfl rfl dX12_init_10 (fun H locs X => ?_)
  rw [NF_put] at X
  have X : Hc E (NF E 399 (401) (.inr (9, [.int 0, .ref (gB E + 400), .null, .int 0, .null, .null, .int 0, .null, .int 0, .int 0, .int 0, .int 0, .int 0, .int 0, .null, .int 0, .int 0, .int 0, .null, .null, .null, .null, .null])) f) (401) s H locs := X
  refine lv_aload_n C.1 C.2.1 dX12_init_13 rfl (lv_at hl 0 rfl) ?_
  refine lv_sipush (v := 888) C.1 C.2.1 dX12_init_14 (by decide) ?_
  refine cnewI C G X h0 (by omega) (by omega) k_161 (N := 888) (by decide) (by omega) (Nat.le_of_ble_eq_true rfl) (Nat.le_of_ble_eq_true rfl) dX12_init_17 (fun H X => ?_)
  rw [NF_one (by omega) (by rw [co_z 0 (kd_401)]; show _ = Sum.inl (gT E 0, ln (401), _); rw [ln_401]; rfl)] at X
  have X : Hc E (NF E 399 (402) (.inr (9, [.int 0, .ref (gB E + 400), .null, .int 0, .null, .null, .int 0, .null, .int 0, .int 0, .int 0, .int 0, .int 0, .int 0, .null, .int 0, .int 0, .int 0, .null, .null, .null, .null, .null])) f) (402) s H _ := X
  refine W.cs (cells' := 2) (slots' := 1776) rfl rfl ?_
  refine cfX12 C G X (k := 399) (by omega) 2 (v := .ref (gB E + 401)) (ty := (.array .int)) NF_at (Nat.le_of_ble_eq_true rfl) (by decide) k_1653 rfl rfl hin rfl (by decide +kernel) rfl rfl dX12_init_19 (fun H locs X => ?_)
  rw [NF_put] at X
  have X : Hc E (NF E 399 (402) (.inr (9, [.int 0, .ref (gB E + 400), .ref (gB E + 401), .int 0, .null, .null, .int 0, .null, .int 0, .int 0, .int 0, .int 0, .int 0, .int 0, .null, .int 0, .int 0, .int 0, .null, .null, .null, .null, .null])) f) (402) s H locs := X
  refine lv_aload_n C.1 C.2.1 dX12_init_22 rfl (lv_at hl 0 rfl) ?_
  refine lv_sipush (v := 488) C.1 C.2.1 dX12_init_23 (by decide) ?_
  refine cnewI C G X h0 (by omega) (by omega) k_161 (N := 488) (by decide) (by omega) (Nat.le_of_ble_eq_true rfl) (Nat.le_of_ble_eq_true rfl) dX12_init_26 (fun H X => ?_)
  rw [NF_one (by omega) (by rw [co_z 0 (kd_402)]; show _ = Sum.inl (gT E 0, ln (402), _); rw [ln_402]; rfl)] at X
  have X : Hc E (NF E 399 (403) (.inr (9, [.int 0, .ref (gB E + 400), .ref (gB E + 401), .int 0, .null, .null, .int 0, .null, .int 0, .int 0, .int 0, .int 0, .int 0, .int 0, .null, .int 0, .int 0, .int 0, .null, .null, .null, .null, .null])) f) (403) s H _ := X
  refine W.cs (cells' := 3) (slots' := 2264) rfl rfl ?_
  refine cfX12 C G X (k := 399) (by omega) 4 (v := .ref (gB E + 402)) (ty := (.array .int)) NF_at (Nat.le_of_ble_eq_true rfl) (by decide) k_1655 rfl rfl hin rfl (by decide +kernel) rfl rfl dX12_init_28 (fun H locs X => ?_)
  rw [NF_put] at X
  have X : Hc E (NF E 399 (403) (.inr (9, [.int 0, .ref (gB E + 400), .ref (gB E + 401), .int 0, .ref (gB E + 402), .null, .int 0, .null, .int 0, .int 0, .int 0, .int 0, .int 0, .int 0, .null, .int 0, .int 0, .int 0, .null, .null, .null, .null, .null])) f) (403) s H locs := X
  refine lv_aload_n C.1 C.2.1 dX12_init_31 rfl (lv_at hl 0 rfl) ?_
  refine lv_sipush (v := 5856) C.1 C.2.1 dX12_init_32 (by decide) ?_
  refine cnewI C G X h0 (by omega) (by omega) k_161 (N := 5856) (by decide) (by omega) (Nat.le_of_ble_eq_true rfl) (Nat.le_of_ble_eq_true rfl) dX12_init_35 (fun H X => ?_)
  rw [NF_one (by omega) (by rw [co_z 0 (kd_403)]; show _ = Sum.inl (gT E 0, ln (403), _); rw [ln_403]; rfl)] at X
  have X : Hc E (NF E 399 (404) (.inr (9, [.int 0, .ref (gB E + 400), .ref (gB E + 401), .int 0, .ref (gB E + 402), .null, .int 0, .null, .int 0, .int 0, .int 0, .int 0, .int 0, .int 0, .null, .int 0, .int 0, .int 0, .null, .null, .null, .null, .null])) f) (404) s H _ := X
  refine W.cs (cells' := 4) (slots' := 8120) rfl rfl ?_
  refine cfX12 C G X (k := 399) (by omega) 5 (v := .ref (gB E + 403)) (ty := (.array .int)) NF_at (Nat.le_of_ble_eq_true rfl) (by decide) k_1656 rfl rfl hin rfl (by decide +kernel) rfl rfl dX12_init_37 (fun H locs X => ?_)
  rw [NF_put] at X
  have X : Hc E (NF E 399 (404) (.inr (9, [.int 0, .ref (gB E + 400), .ref (gB E + 401), .int 0, .ref (gB E + 402), .ref (gB E + 403), .int 0, .null, .int 0, .int 0, .int 0, .int 0, .int 0, .int 0, .null, .int 0, .int 0, .int 0, .null, .null, .null, .null, .null])) f) (404) s H locs := X
  refine lv_aload_n C.1 C.2.1 dX12_init_40 rfl (lv_at hl 0 rfl) ?_
  refine lv_sipush (v := 400) C.1 C.2.1 dX12_init_41 (by decide) ?_
  refine cnewI C G X h0 (by omega) (by omega) k_161 (N := 400) (by decide) (by omega) (Nat.le_of_ble_eq_true rfl) (Nat.le_of_ble_eq_true rfl) dX12_init_44 (fun H X => ?_)
  rw [NF_one (by omega) (by rw [co_z 0 (kd_404)]; show _ = Sum.inl (gT E 0, ln (404), _); rw [ln_404]; rfl)] at X
  have X : Hc E (NF E 399 (405) (.inr (9, [.int 0, .ref (gB E + 400), .ref (gB E + 401), .int 0, .ref (gB E + 402), .ref (gB E + 403), .int 0, .null, .int 0, .int 0, .int 0, .int 0, .int 0, .int 0, .null, .int 0, .int 0, .int 0, .null, .null, .null, .null, .null])) f) (405) s H _ := X
  refine W.cs (cells' := 5) (slots' := 8520) rfl rfl ?_
  refine cfX12 C G X (k := 399) (by omega) 7 (v := .ref (gB E + 404)) (ty := (.array .int)) NF_at (Nat.le_of_ble_eq_true rfl) (by decide) k_1658 rfl rfl hin rfl (by decide +kernel) rfl rfl dX12_init_46 (fun H locs X => ?_)
  rw [NF_put] at X
  have X : Hc E (NF E 399 (405) (.inr (9, [.int 0, .ref (gB E + 400), .ref (gB E + 401), .int 0, .ref (gB E + 402), .ref (gB E + 403), .int 0, .ref (gB E + 404), .int 0, .int 0, .int 0, .int 0, .int 0, .int 0, .null, .int 0, .int 0, .int 0, .null, .null, .null, .null, .null])) f) (405) s H locs := X
  refine lv_aload_n C.1 C.2.1 dX12_init_49 rfl (lv_at hl 0 rfl) ?_
  refine lv_iconst (v := (-1)) C.1 C.2.1 dX12_init_50 (by decide) ?_
  refine cvX12 C G X (k := 399) (by omega) 12 (v := .int (-1)) (ty := .int) NF_at (Nat.le_of_ble_eq_true rfl) (by decide) k_1663 rfl rfl (by decide +kernel) rfl rfl dX12_init_51 (fun H locs X => ?_)
  rw [NF_put] at X
  have X : Hc E (NF E 399 (405) (.inr (9, [.int 0, .ref (gB E + 400), .ref (gB E + 401), .int 0, .ref (gB E + 402), .ref (gB E + 403), .int 0, .ref (gB E + 404), .int 0, .int 0, .int 0, .int 0, .int (-1), .int 0, .null, .int 0, .int 0, .int 0, .null, .null, .null, .null, .null])) f) (405) s H locs := X
  refine lv_aload_n C.1 C.2.1 dX12_init_54 rfl (lv_at hl 0 rfl) ?_
  refine lv_bipush (v := 7) C.1 C.2.1 dX12_init_55 (by decide) ?_
  refine cnewI C G X h0 (by omega) (by omega) k_161 (N := 7) (by decide) (by omega) (Nat.le_of_ble_eq_true rfl) (Nat.le_of_ble_eq_true rfl) dX12_init_57 (fun H X => ?_)
  rw [NF_one (by omega) (by rw [co_z 0 (kd_405)]; show _ = Sum.inl (gT E 0, ln (405), _); rw [ln_405]; rfl)] at X
  have X : Hc E (NF E 399 (406) (.inr (9, [.int 0, .ref (gB E + 400), .ref (gB E + 401), .int 0, .ref (gB E + 402), .ref (gB E + 403), .int 0, .ref (gB E + 404), .int 0, .int 0, .int 0, .int 0, .int (-1), .int 0, .null, .int 0, .int 0, .int 0, .null, .null, .null, .null, .null])) f) (406) s H _ := X
  refine W.cs (cells' := 6) (slots' := 8527) rfl rfl ?_
  refine cfX12 C G X (k := 399) (by omega) 14 (v := .ref (gB E + 405)) (ty := (.array .int)) NF_at (Nat.le_of_ble_eq_true rfl) (by decide) k_1665 rfl rfl hin rfl (by decide +kernel) rfl rfl dX12_init_59 (fun H locs X => ?_)
  rw [NF_put] at X
  have X : Hc E (NF E 399 (406) (.inr (9, [.int 0, .ref (gB E + 400), .ref (gB E + 401), .int 0, .ref (gB E + 402), .ref (gB E + 403), .int 0, .ref (gB E + 404), .int 0, .int 0, .int 0, .int 0, .int (-1), .int 0, .ref (gB E + 405), .int 0, .int 0, .int 0, .null, .null, .null, .null, .null])) f) (406) s H locs := X
  refine lv_aload_n C.1 C.2.1 dX12_init_62 rfl (lv_at hl 0 rfl) ?_
  refine lv_bipush (v := 81) C.1 C.2.1 dX12_init_63 (by decide) ?_
  refine cnewI C G X h0 (by omega) (by omega) k_161 (N := 81) (by decide) (by omega) (Nat.le_of_ble_eq_true rfl) (Nat.le_of_ble_eq_true rfl) dX12_init_65 (fun H X => ?_)
  rw [NF_one (by omega) (by rw [co_z 0 (kd_406)]; show _ = Sum.inl (gT E 0, ln (406), _); rw [ln_406]; rfl)] at X
  have X : Hc E (NF E 399 (407) (.inr (9, [.int 0, .ref (gB E + 400), .ref (gB E + 401), .int 0, .ref (gB E + 402), .ref (gB E + 403), .int 0, .ref (gB E + 404), .int 0, .int 0, .int 0, .int 0, .int (-1), .int 0, .ref (gB E + 405), .int 0, .int 0, .int 0, .null, .null, .null, .null, .null])) f) (407) s H _ := X
  refine W.cs (cells' := 7) (slots' := 8608) rfl rfl ?_
  refine cfX12 C G X (k := 399) (by omega) 18 (v := .ref (gB E + 406)) (ty := (.array .int)) NF_at (Nat.le_of_ble_eq_true rfl) (by decide) k_1669 rfl rfl hin rfl (by decide +kernel) rfl rfl dX12_init_67 (fun H locs X => ?_)
  rw [NF_put] at X
  have X : Hc E (NF E 399 (407) (.inr (9, [.int 0, .ref (gB E + 400), .ref (gB E + 401), .int 0, .ref (gB E + 402), .ref (gB E + 403), .int 0, .ref (gB E + 404), .int 0, .int 0, .int 0, .int 0, .int (-1), .int 0, .ref (gB E + 405), .int 0, .int 0, .int 0, .ref (gB E + 406), .null, .null, .null, .null])) f) (407) s H locs := X
  refine lv_aload_n C.1 C.2.1 dX12_init_70 rfl (lv_at hl 0 rfl) ?_
  refine lv_sipush (v := 2304) C.1 C.2.1 dX12_init_71 (by decide) ?_
  refine cnewI C G X h0 (by omega) (by omega) k_161 (N := 2304) (by decide) (by omega) (Nat.le_of_ble_eq_true rfl) (Nat.le_of_ble_eq_true rfl) dX12_init_74 (fun H X => ?_)
  rw [NF_one (by omega) (by rw [co_z 0 (kd_407)]; show _ = Sum.inl (gT E 0, ln (407), _); rw [ln_407]; rfl)] at X
  have X : Hc E (NF E 399 (408) (.inr (9, [.int 0, .ref (gB E + 400), .ref (gB E + 401), .int 0, .ref (gB E + 402), .ref (gB E + 403), .int 0, .ref (gB E + 404), .int 0, .int 0, .int 0, .int 0, .int (-1), .int 0, .ref (gB E + 405), .int 0, .int 0, .int 0, .ref (gB E + 406), .null, .null, .null, .null])) f) (408) s H _ := X
  refine W.cs (cells' := 8) (slots' := 10912) rfl rfl ?_
  refine cfX12 C G X (k := 399) (by omega) 19 (v := .ref (gB E + 407)) (ty := (.array .int)) NF_at (Nat.le_of_ble_eq_true rfl) (by decide) k_1670 rfl rfl hin rfl (by decide +kernel) rfl rfl dX12_init_76 (fun H locs X => ?_)
  rw [NF_put] at X
  have X : Hc E (NF E 399 (408) (.inr (9, [.int 0, .ref (gB E + 400), .ref (gB E + 401), .int 0, .ref (gB E + 402), .ref (gB E + 403), .int 0, .ref (gB E + 404), .int 0, .int 0, .int 0, .int 0, .int (-1), .int 0, .ref (gB E + 405), .int 0, .int 0, .int 0, .ref (gB E + 406), .ref (gB E + 407), .null, .null, .null])) f) (408) s H locs := X
  refine lv_aload_n C.1 C.2.1 dX12_init_79 rfl (lv_at hl 0 rfl) ?_
  refine lv_bipush (v := 64) C.1 C.2.1 dX12_init_80 (by decide) ?_
  refine cnewI C G X h0 (by omega) (by omega) k_161 (N := 64) (by decide) (by omega) (Nat.le_of_ble_eq_true rfl) (Nat.le_of_ble_eq_true rfl) dX12_init_82 (fun H X => ?_)
  rw [NF_one (by omega) (by rw [co_z 0 (kd_408)]; show _ = Sum.inl (gT E 0, ln (408), _); rw [ln_408]; rfl)] at X
  have X : Hc E (NF E 399 (409) (.inr (9, [.int 0, .ref (gB E + 400), .ref (gB E + 401), .int 0, .ref (gB E + 402), .ref (gB E + 403), .int 0, .ref (gB E + 404), .int 0, .int 0, .int 0, .int 0, .int (-1), .int 0, .ref (gB E + 405), .int 0, .int 0, .int 0, .ref (gB E + 406), .ref (gB E + 407), .null, .null, .null])) f) (409) s H _ := X
  refine W.cs (cells' := 9) (slots' := 10976) rfl rfl ?_
  refine cfX12 C G X (k := 399) (by omega) 20 (v := .ref (gB E + 408)) (ty := (.array .int)) NF_at (Nat.le_of_ble_eq_true rfl) (by decide) k_1671 rfl rfl hin rfl (by decide +kernel) rfl rfl dX12_init_84 (fun H locs X => ?_)
  rw [NF_put] at X
  have X : Hc E (NF E 399 (409) (.inr (9, [.int 0, .ref (gB E + 400), .ref (gB E + 401), .int 0, .ref (gB E + 402), .ref (gB E + 403), .int 0, .ref (gB E + 404), .int 0, .int 0, .int 0, .int 0, .int (-1), .int 0, .ref (gB E + 405), .int 0, .int 0, .int 0, .ref (gB E + 406), .ref (gB E + 407), .ref (gB E + 408), .null, .null])) f) (409) s H locs := X
  refine lv_aload_n C.1 C.2.1 dX12_init_87 rfl (lv_at hl 0 rfl) ?_
  refine lv_bipush (v := 81) C.1 C.2.1 dX12_init_88 (by decide) ?_
  refine cnewI C G X h0 (by omega) (by omega) k_161 (N := 81) (by decide) (by omega) (Nat.le_of_ble_eq_true rfl) (Nat.le_of_ble_eq_true rfl) dX12_init_90 (fun H X => ?_)
  rw [NF_one (by omega) (by rw [co_z 0 (kd_409)]; show _ = Sum.inl (gT E 0, ln (409), _); rw [ln_409]; rfl)] at X
  have X : Hc E (NF E 399 (410) (.inr (9, [.int 0, .ref (gB E + 400), .ref (gB E + 401), .int 0, .ref (gB E + 402), .ref (gB E + 403), .int 0, .ref (gB E + 404), .int 0, .int 0, .int 0, .int 0, .int (-1), .int 0, .ref (gB E + 405), .int 0, .int 0, .int 0, .ref (gB E + 406), .ref (gB E + 407), .ref (gB E + 408), .null, .null])) f) (410) s H _ := X
  refine W.cs (cells' := 10) (slots' := 11057) rfl rfl ?_
  refine cfX12 C G X (k := 399) (by omega) 21 (v := .ref (gB E + 409)) (ty := (.array .int)) NF_at (Nat.le_of_ble_eq_true rfl) (by decide) k_1672 rfl rfl hin rfl (by decide +kernel) rfl rfl dX12_init_92 (fun H locs X => ?_)
  rw [NF_put] at X
  have X : Hc E (NF E 399 (410) (.inr (9, [.int 0, .ref (gB E + 400), .ref (gB E + 401), .int 0, .ref (gB E + 402), .ref (gB E + 403), .int 0, .ref (gB E + 404), .int 0, .int 0, .int 0, .int 0, .int (-1), .int 0, .ref (gB E + 405), .int 0, .int 0, .int 0, .ref (gB E + 406), .ref (gB E + 407), .ref (gB E + 408), .ref (gB E + 409), .null])) f) (410) s H locs := X
  refine lv_aload_n C.1 C.2.1 dX12_init_95 rfl (lv_at hl 0 rfl) ?_
  refine lv_bipush (v := 9) C.1 C.2.1 dX12_init_96 (by decide) ?_
  refine cnewI C G X h0 (by omega) (by omega) k_161 (N := 9) (by decide) (by omega) (Nat.le_of_ble_eq_true rfl) (Nat.le_of_ble_eq_true rfl) dX12_init_98 (fun H X => ?_)
  rw [NF_one (by omega) (by rw [co_z 0 (kd_410)]; show _ = Sum.inl (gT E 0, ln (410), _); rw [ln_410]; rfl)] at X
  have X : Hc E (NF E 399 (411) (.inr (9, [.int 0, .ref (gB E + 400), .ref (gB E + 401), .int 0, .ref (gB E + 402), .ref (gB E + 403), .int 0, .ref (gB E + 404), .int 0, .int 0, .int 0, .int 0, .int (-1), .int 0, .ref (gB E + 405), .int 0, .int 0, .int 0, .ref (gB E + 406), .ref (gB E + 407), .ref (gB E + 408), .ref (gB E + 409), .null])) f) (411) s H _ := X
  refine W.cs (cells' := 11) (slots' := 11066) rfl rfl ?_
  refine cfX12 C G X (k := 399) (by omega) 22 (v := .ref (gB E + 410)) (ty := (.array .int)) NF_at (Nat.le_of_ble_eq_true rfl) (by decide) k_1673 rfl rfl hin rfl (by decide +kernel) rfl rfl dX12_init_100 (fun H locs X => ?_)
  rw [NF_put] at X
  have X : Hc E (NF E 399 (411) (.inr (9, [.int 0, .ref (gB E + 400), .ref (gB E + 401), .int 0, .ref (gB E + 402), .ref (gB E + 403), .int 0, .ref (gB E + 404), .int 0, .int 0, .int 0, .int 0, .int (-1), .int 0, .ref (gB E + 405), .int 0, .int 0, .int 0, .ref (gB E + 406), .ref (gB E + 407), .ref (gB E + 408), .ref (gB E + 409), .ref (gB E + 410)])) f) (411) s H locs := X
  refine lv_aload_n C.1 C.2.1 dX12_init_103 rfl (lv_at hl 0 rfl) ?_
  refine cgX12 C G X (k := 399) (by omega) 1 (v := .ref (gB E + 400)) NF_at rfl (by decide) k_1652 rfl dX12_init_104 ?_
  have hM1 : True := trivial
  refine lv_iconst (v := 1) C.1 C.2.1 dX12_init_107 (by decide) ?_
  refine lv_iconst (v := (-1)) C.1 C.2.1 dX12_init_108 (by decide) ?_
  refine castI C G X (k := 400) (by omega) (g := zr 0) (N := 888) (by rw [NF, if_neg (by decide), if_pos (by decide), co_z 0 kd_400]; show _ = Sum.inl (gT E 0, 888, _); rw [cell0, ln_400]) (show ¬ ((1 : Int32) < 0 ∨ 888 ≤ (1 : Int32).toNatClampNeg) from by decide +kernel) dX12_init_109 (fun H locs X => ?_)
  have hM2 : True := trivial
  refine lv_aload_n C.1 C.2.1 dX12_init_110 rfl (lv_at hl 0 rfl) ?_
  refine cgX12 C G X (k := 399) (by omega) 1 (v := .ref (gB E + 400)) (by rw [va_up, if_neg (by decide), NF_at]) rfl (by decide) k_1652 rfl dX12_init_111 ?_
  refine lv_bipush (v := 10) C.1 C.2.1 dX12_init_114 (by decide) ?_
  refine lv_iconst (v := 1) C.1 C.2.1 dX12_init_116 (by decide) ?_
  refine castI C G X (k := 400) (by omega) (by rw [va_up, if_pos rfl]) (show ¬ ((10 : Int32) < 0 ∨ 888 ≤ (10 : Int32).toNatClampNeg) from by decide +kernel) dX12_init_117 (fun H locs X => ?_)
  refine rtN C X rfl rfl ?_ rfl dX12_init_118
  funext j
  by_cases hj : j = 400
  · subst hj
    rw [va_up, if_pos rfl, fi1, va_up, if_pos rfl]
    rfl
  · rw [va_up, if_neg hj, va_up, if_neg hj, fi1, va_up, if_neg hj]
    exact congrFun (NF_end (m := 12) (by rw [co_z 10 kd_399]; rfl) (by omega)) j

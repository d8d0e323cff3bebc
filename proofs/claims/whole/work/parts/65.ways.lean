/-! ways that stand, each once -/
noncomputable def View.wayC (v : View) : Nat := iterN (fun a p => a + cntB (v.way p) p) 0 v.n
theorem cntB_split {f : Nat → Bool} {n : Nat} : ∀ {p : Nat}, p ≤ n → cntB f n = cntB f p + cntB (fun i => f (p + i)) (n - p) := by
  induction n with
  | zero => intro p hp; rw [show p = 0 by omega]; rfl
  | succ n ih =>
    intro p hp
    by_cases e : p = n + 1
    · subst e; rw [show n + 1 - (n + 1) = 0 by omega]; rfl
    · rw [show cntB f (n + 1) = cntB f n + (if f n = true then 1 else 0) from rfl, ih (p := p) (by omega), show n + 1 - p = (n - p) + 1 by omega, show cntB (fun i => f (p + i)) (n - p + 1) = cntB (fun i => f (p + i)) (n - p) + (if f (p + (n - p)) = true then 1 else 0) from rfl, show p + (n - p) = n by omega]
      omega
/-- the pairs below, and all of a row: twice as many -/
theorem way_twice {w : Nat → Nat → Bool} : ∀ {m : Nat}, (∀ p q, p < m → q < m → w p q = w q p) → (∀ p, p < m → w p p = false) → iterN (fun a p => a + cntB (w p) m) 0 m = 2 * iterN (fun a p => a + cntB (w p) p) 0 m := by
  intro m
  induction m with
  | zero => intro _ _; rfl
  | succ m ih =>
    intro hs hi
    have ih := ih (fun p q hp hq => hs p q (by omega) (by omega)) (fun p hp => hi p (by omega))
    have h1 : ∀ k, k ≤ m → iterN (fun a p => a + cntB (w p) (m + 1)) 0 k = iterN (fun a p => a + cntB (w p) m) 0 k + cntB (w m) k := by
      intro k
      induction k with
      | zero => intro _; rfl
      | succ k ih2 =>
        intro hk
        rw [iterN, iterN, ih2 (by omega), show cntB (w k) (m + 1) = cntB (w k) m + (if w k m = true then 1 else 0) from rfl, show cntB (w m) (k + 1) = cntB (w m) k + (if w m k = true then 1 else 0) from rfl, hs k m (by omega) (by omega)]
        omega
    rw [iterN, iterN, h1 m (Nat.le_refl _), ih, show cntB (w m) (m + 1) = cntB (w m) m + (if w m m = true then 1 else 0) from rfl, hi m (by omega), if_neg (by decide)]
    omega
section WAYS
variable {σ : Mem} {B : Nat} {v : View} {e : Nat}
theorem wayC_le (W : WF v) : v.wayC ≤ 81 := by
  have h9 := W.n9
  have : ∀ m, m ≤ 9 → iterN (fun a p => a + cntB (v.way p) p) 0 m ≤ 9 * m := by
    intro m
    induction m with
    | zero => intro _; exact Nat.le_refl _
    | succ m ih =>
      intro hm
      have := ih (by omega)
      have : cntB (v.way m) m ≤ m := cntB_le
      rw [iterN]
      omega
  have := this v.n h9
  unfold View.wayC
  omega
theorem e_openWays (hB : kd B = 2) (W : WF v) (R : SC σ B v e) : X7_openWays σ B = some (nI v.wayC) := by
  have hn := W.n9
  unfold X7_openWays
  simp only [li0]
  have hb : ∀ m, m ≤ v.n → iterN (fun a p => a + cntB (v.way p) v.n) 0 m ≤ 9 * m := by
    intro m
    induction m with
    | zero => intro _; exact Nat.le_refl _
    | succ m ih =>
      intro hm
      have := ih (by omega)
      have : cntB (v.way m) v.n ≤ v.n := cntB_le
      rw [iterN]
      omega
  refine loop_P (L := fun f a i => X7_openWays_4 σ f B a i) (P := fun i a => a = nI (iterN (fun a p => a + cntB (v.way p) v.n) 0 i)) (Q := fun r => r = some (nI v.wayC)) (n := v.n) (fun f a hP => ?_) (fun f a i hi hP => Or.inr ?_) (Nat.zero_le _) (FUb (by omega)) rfl
  · subst hP
    have := hb v.n (Nat.le_refl _)
    simp -implicitDefEqProofs (disch := omega) only [X7_openWays_4, Nat.le_refl, bd_s, bd2_s, bdx_l, bdx_r, bdx2_l, bdx2_r, pu_s, gb0, gb1, gb_b, li0, li1, li2, li3, li4, li5, li6, li7, li8, li9, li10, li11, li12, li13, li14, li15, li16, li17, li18, li19, li20, li21, li22, li23, li24, li25, li26, li27, li28, li29, li30, li31, li32, li39, li40, li41, li43, li47, li48, li57, li59, li60, li62, li63, li64, li81, li97, li99, li100, li122, li128, li152, li188, li189, li190, li191, li192, li255, li299, li380, li400, li488, li888, li999, li1000, li5368, li9999, neg1, b2i_z, b2i_o, b2i_e, b2i_t, b2i_f, oI_s, nI_on, on_nI, on_on, le_on, on_lt, on_le, lt_on, nI_leI, nI_ltI, nI_eq, nI_add, nI_mul, nI_subN, nI_subon, nI_addon, sh1, xorN, ite_true, ite_false, if_true, if_false, not_true_eq_false, not_false_eq_true, reduceCtorEq, G_oil hB W R, G_own hB W R, G_dark hB W R, G_way hB W R, G_pl hB W R, G_tp hB W R, G_hd hB W R, G_lt hB W R, R.n, R.k, R.hour, R.night, R.fog, R.mist, R.texts, R.seed, R.burn, e_isBurning W R, e_hasBit, e_bit, hbE, e_likesFor hB W R, e_hasWay hB W R, e_far hB W R, far_on, own_on W, hd_on W, own_is W, hd_is W]
    rw [pk_div (by omega) (by decide) (by decide), way_twice W.sym W.irr, Nat.mul_div_cancel_left _ (by decide)]
    rfl
  · refine ⟨_, ?_, rfl⟩
    subst hP
    rw [iterN]
    simp -implicitDefEqProofs (disch := omega) only [X7_openWays_4, e_bitCount, show ¬ v.n ≤ i by omega, bd_s, bd2_s, bdx_l, bdx_r, bdx2_l, bdx2_r, pu_s, gb0, gb1, gb_b, li0, li1, li2, li3, li4, li5, li6, li7, li8, li9, li10, li11, li12, li13, li14, li15, li16, li17, li18, li19, li20, li21, li22, li23, li24, li25, li26, li27, li28, li29, li30, li31, li32, li39, li40, li41, li43, li47, li48, li57, li59, li60, li62, li63, li64, li81, li97, li99, li100, li122, li128, li152, li188, li189, li190, li191, li192, li255, li299, li380, li400, li488, li888, li999, li1000, li5368, li9999, neg1, b2i_z, b2i_o, b2i_e, b2i_t, b2i_f, oI_s, nI_on, on_nI, on_on, le_on, on_lt, on_le, lt_on, nI_leI, nI_ltI, nI_eq, nI_add, nI_mul, nI_subN, nI_subon, nI_addon, sh1, xorN, ite_true, ite_false, if_true, if_false, not_true_eq_false, not_false_eq_true, reduceCtorEq, G_oil hB W R, G_own hB W R, G_dark hB W R, G_way hB W R, G_pl hB W R, G_tp hB W R, G_hd hB W R, G_lt hB W R, R.n, R.k, R.hour, R.night, R.fog, R.mist, R.texts, R.seed, R.burn, e_isBurning W R, e_hasBit, e_bit, hbE, e_likesFor hB W R, e_hasWay hB W R, e_far hB W R, far_on, own_on W, hd_on W, own_is W, hd_is W]
theorem m_waysOf (W : WF v) (M : SM (σ 400) v) : X12_waysOf σ = some (nI v.wayC) := by
  have hn := W.n9
  unfold X12_waysOf View.wayC
  simp only [li0]
  refine loop_P (L := fun f a i => X12_waysOf_4 σ f a i) (P := fun i a => a = nI (iterN (fun a p => a + cntB (v.way p) p) 0 i)) (Q := fun r => r = some (nI (iterN (fun a p => a + cntB (v.way p) p) 0 v.n))) (n := v.n) (fun f a hP => ?_) (fun f a i hi hP => Or.inr ?_) (Nat.zero_le _) (FUb (by omega)) rfl
  · subst hP
    simp -implicitDefEqProofs (disch := omega) only [X12_waysOf_4, Nat.le_refl, bd_s, bd2_s, bdx_l, bdx_r, bdx2_l, bdx2_r, pu_s, gb0, gb1, gb_b, li0, li1, li2, li3, li4, li5, li6, li7, li8, li9, li10, li11, li12, li13, li14, li15, li16, li17, li18, li19, li20, li21, li22, li23, li24, li25, li26, li27, li28, li29, li30, li31, li32, li39, li40, li41, li43, li47, li48, li57, li59, li60, li62, li63, li64, li81, li97, li99, li100, li122, li128, li152, li188, li189, li190, li191, li192, li255, li299, li380, li400, li488, li888, li999, li1000, li5368, li9999, neg1, b2i_z, b2i_o, b2i_e, b2i_t, b2i_f, oI_s, nI_on, on_nI, on_on, le_on, on_lt, on_le, lt_on, nI_leI, nI_ltI, nI_eq, nI_add, nI_mul, nI_subN, nI_subon, nI_addon, sh1, xorN, ite_true, ite_false, if_true, if_false, not_true_eq_false, not_false_eq_true, reduceCtorEq, o_oil W M, o_burn W M, o_own W M, o_dark W M, o_pl W M, o_tp W M, o_hd W M, o_lt W M, a_n M, a_k M, a_hour M, a_night M, a_fog M, a_mist M, a_logs M, a_seed M, a_texts M, e_isOf, hbE, m_isWay W M, m_far W M, m_nextTo W M, m_liking W M, m_likesOwner W M, m_lesser, m_greater, m_isIn, far_on, own_on W, hd_on W, own_is W, hd_is W]
  · refine ⟨_, ?_, rfl⟩
    subst hP
    rw [iterN]
    simp -implicitDefEqProofs (disch := omega) only [X12_waysOf_4, show ¬ v.n ≤ i by omega, bd_s, bd2_s, bdx_l, bdx_r, bdx2_l, bdx2_r, pu_s, gb0, gb1, gb_b, li0, li1, li2, li3, li4, li5, li6, li7, li8, li9, li10, li11, li12, li13, li14, li15, li16, li17, li18, li19, li20, li21, li22, li23, li24, li25, li26, li27, li28, li29, li30, li31, li32, li39, li40, li41, li43, li47, li48, li57, li59, li60, li62, li63, li64, li81, li97, li99, li100, li122, li128, li152, li188, li189, li190, li191, li192, li255, li299, li380, li400, li488, li888, li999, li1000, li5368, li9999, neg1, b2i_z, b2i_o, b2i_e, b2i_t, b2i_f, oI_s, nI_on, on_nI, on_on, le_on, on_lt, on_le, lt_on, nI_leI, nI_ltI, nI_eq, nI_add, nI_mul, nI_subN, nI_subon, nI_addon, sh1, xorN, ite_true, ite_false, if_true, if_false, not_true_eq_false, not_false_eq_true, reduceCtorEq, o_oil W M, o_burn W M, o_own W M, o_dark W M, o_pl W M, o_tp W M, o_hd W M, o_lt W M, a_n M, a_k M, a_hour M, a_night M, a_fog M, a_mist M, a_logs M, a_seed M, a_texts M, e_isOf, hbE, m_isWay W M, m_far W M, m_nextTo W M, m_liking W M, m_likesOwner W M, m_lesser, m_greater, m_isIn, far_on, own_on W, hd_on W, own_is W, hd_is W]
    refine loop_P (L := fun g a j => X12_waysOf_16 σ (X12_waysOf_4 σ f) g a (nI i) j) (P := fun j a => a = nI (iterN (fun a p => a + cntB (v.way p) p) 0 i + cntB (v.way i) j)) (Q := fun r => r = X12_waysOf_4 σ f (nI (iterN (fun a p => a + cntB (v.way p) p) 0 i + cntB (v.way i) i)) (nI (i + 1))) (n := i) (fun g a hP => ?_) (fun g a j hj hP => Or.inr ?_) (Nat.zero_le _) (FUb (by omega)) rfl
    · subst hP
      simp -implicitDefEqProofs (disch := omega) only [X12_waysOf_16, Nat.le_refl, bd_s, bd2_s, bdx_l, bdx_r, bdx2_l, bdx2_r, pu_s, gb0, gb1, gb_b, li0, li1, li2, li3, li4, li5, li6, li7, li8, li9, li10, li11, li12, li13, li14, li15, li16, li17, li18, li19, li20, li21, li22, li23, li24, li25, li26, li27, li28, li29, li30, li31, li32, li39, li40, li41, li43, li47, li48, li57, li59, li60, li62, li63, li64, li81, li97, li99, li100, li122, li128, li152, li188, li189, li190, li191, li192, li255, li299, li380, li400, li488, li888, li999, li1000, li5368, li9999, neg1, b2i_z, b2i_o, b2i_e, b2i_t, b2i_f, oI_s, nI_on, on_nI, on_on, le_on, on_lt, on_le, lt_on, nI_leI, nI_ltI, nI_eq, nI_add, nI_mul, nI_subN, nI_subon, nI_addon, sh1, xorN, ite_true, ite_false, if_true, if_false, not_true_eq_false, not_false_eq_true, reduceCtorEq, o_oil W M, o_burn W M, o_own W M, o_dark W M, o_pl W M, o_tp W M, o_hd W M, o_lt W M, a_n M, a_k M, a_hour M, a_night M, a_fog M, a_mist M, a_logs M, a_seed M, a_texts M, e_isOf, hbE, m_isWay W M, m_far W M, m_nextTo W M, m_liking W M, m_likesOwner W M, m_lesser, m_greater, m_isIn, far_on, own_on W, hd_on W, own_is W, hd_is W]
    · refine ⟨_, ?_, rfl⟩
      subst hP
      rw [show cntB (v.way i) (j + 1) = cntB (v.way i) j + (if v.way i j = true then 1 else 0) from rfl]
      cases hw : v.way i j with
      | true => simp -implicitDefEqProofs (disch := omega) only [X12_waysOf_16, X12_waysOf_36, hw, show ¬ i ≤ j by omega, Nat.add_assoc, bd_s, bd2_s, bdx_l, bdx_r, bdx2_l, bdx2_r, pu_s, gb0, gb1, gb_b, li0, li1, li2, li3, li4, li5, li6, li7, li8, li9, li10, li11, li12, li13, li14, li15, li16, li17, li18, li19, li20, li21, li22, li23, li24, li25, li26, li27, li28, li29, li30, li31, li32, li39, li40, li41, li43, li47, li48, li57, li59, li60, li62, li63, li64, li81, li97, li99, li100, li122, li128, li152, li188, li189, li190, li191, li192, li255, li299, li380, li400, li488, li888, li999, li1000, li5368, li9999, neg1, b2i_z, b2i_o, b2i_e, b2i_t, b2i_f, oI_s, nI_on, on_nI, on_on, le_on, on_lt, on_le, lt_on, nI_leI, nI_ltI, nI_eq, nI_add, nI_mul, nI_subN, nI_subon, nI_addon, sh1, xorN, ite_true, ite_false, if_true, if_false, not_true_eq_false, not_false_eq_true, reduceCtorEq, o_oil W M, o_burn W M, o_own W M, o_dark W M, o_pl W M, o_tp W M, o_hd W M, o_lt W M, a_n M, a_k M, a_hour M, a_night M, a_fog M, a_mist M, a_logs M, a_seed M, a_texts M, e_isOf, hbE, m_isWay W M, m_far W M, m_nextTo W M, m_liking W M, m_likesOwner W M, m_lesser, m_greater, m_isIn, far_on, own_on W, hd_on W, own_is W, hd_is W]
      | false => simp -implicitDefEqProofs (disch := omega) only [X12_waysOf_16, X12_waysOf_36, hw, show ¬ i ≤ j by omega, Nat.add_assoc, bd_s, bd2_s, bdx_l, bdx_r, bdx2_l, bdx2_r, pu_s, gb0, gb1, gb_b, li0, li1, li2, li3, li4, li5, li6, li7, li8, li9, li10, li11, li12, li13, li14, li15, li16, li17, li18, li19, li20, li21, li22, li23, li24, li25, li26, li27, li28, li29, li30, li31, li32, li39, li40, li41, li43, li47, li48, li57, li59, li60, li62, li63, li64, li81, li97, li99, li100, li122, li128, li152, li188, li189, li190, li191, li192, li255, li299, li380, li400, li488, li888, li999, li1000, li5368, li9999, neg1, b2i_z, b2i_o, b2i_e, b2i_t, b2i_f, oI_s, nI_on, on_nI, on_on, le_on, on_lt, on_le, lt_on, nI_leI, nI_ltI, nI_eq, nI_add, nI_mul, nI_subN, nI_subon, nI_addon, sh1, xorN, ite_true, ite_false, if_true, if_false, not_true_eq_false, not_false_eq_true, reduceCtorEq, o_oil W M, o_burn W M, o_own W M, o_dark W M, o_pl W M, o_tp W M, o_hd W M, o_lt W M, a_n M, a_k M, a_hour M, a_night M, a_fog M, a_mist M, a_logs M, a_seed M, a_texts M, e_isOf, hbE, m_isWay W M, m_far W M, m_nextTo W M, m_liking W M, m_likesOwner W M, m_lesser, m_greater, m_isIn, far_on, own_on W, hd_on W, own_is W, hd_is W]
/-- the packed rows of the log -/
theorem pk_parts {r : Rw} (h : r.ok) : nI r.pk >>> (nI 14 &&& nI 31) = nI r.nt ∧ (nI r.pk >>> (nI 9 &&& nI 31)) &&& nI 31 = nI r.hr ∧ (nI r.pk >>> (nI 7 &&& nI 31)) &&& nI 3 = nI r.kd ∧ (nI r.pk >>> (nI 3 &&& nI 31)) &&& nI 15 = nI r.pn ∧ (nI r.pk &&& nI 7) - nI 1 = oI r.wk := by
  have hp := Rw.pk_lt h
  obtain ⟨h1, h2, h3, h4, h5⟩ := h
  have q : ∃ z, z < 8 ∧ r.pk = (((r.nt * 32 + r.hr) * 4 + r.kd) * 16 + r.pn) * 8 + z ∧ nI z - nI 1 = oI r.wk := by
    unfold Rw.pk
    cases hw : r.wk with
    | none => exact ⟨0, by omega, rfl, rfl⟩
    | some w => have := h5 w hw; exact ⟨w + 1, by omega, rfl, nI_pred w⟩
  obtain ⟨z, z1, z2, z3⟩ := q
  refine ⟨?_, ?_, ?_, ?_, ?_⟩
  · rw [pk_shrN (by omega) _ 14 (by decide)]
    congr 1
    omega
  · rw [pk_shrN (by omega) _ 9 (by decide), pk_andN (by omega) 5 (by decide)]
    congr 1
    omega
  · rw [pk_shrN (by omega) _ 7 (by decide), pk_andN (by omega) 2 (by decide)]
    congr 1
    omega
  · rw [pk_shrN (by omega) _ 3 (by decide), pk_andN (by omega) 4 (by decide)]
    congr 1
    omega
  · rw [pk_andN (by omega) 3 (by decide), show r.pk % 2 ^ 3 = z by omega]
    exact z3
theorem e_rows (R : SC σ B v e) (he : e < 2 ^ 30) : X7_rows σ B = some (nI v.log.length) := by
  obtain ⟨c, c1, c2, c3, c4⟩ := R.log
  unfold X7_rows
  rw [c2, show (60 : Int32) = nI 60 from rfl, mn999 (by omega) (by omega), ← c3, Nat.min_comm]
/-- what a row of the log tells -/
def Rw.tell (r : Rw) (k : Nat) : Int32 := if k = 0 then nI r.nt else if k = 1 then nI r.hr else if k = 2 then nI r.kd else if k = 3 then nI r.pn else oI r.wk
theorem e_readRow (hB : kd B = 2) (W : WF v) (R : SC σ B v e) (he : e < 2 ^ 30) {a k : Nat} {r : Rw} (ha : v.log[a]? = some r) (hk : k < 5) : X7_readRow σ B (nI a) (nI k) = some (r.tell k) := by
  obtain ⟨c, c1, c2, c3, c4⟩ := R.log
  have hl : ln (B + 19 + 1) = 60 := (ln_str hB).2.2.2.2.2.2.2.2.2
  have h60 := W.log
  have hlt := (List.getElem?_eq_some_iff.mp ha).1
  have hr : r.ok := W.rows r (List.mem_of_getElem? ha)
  obtain ⟨p0, p1, p2, p3, p4⟩ := pk_parts hr
  unfold X7_readRow Rw.tell
  rw [c2]
  simp -implicitDefEqProofs (disch := omega) only [bd_s, bd2_s, bdx_l, bdx_r, bdx2_l, bdx2_r, pu_s, gb0, gb1, gb_b, li0, li1, li2, li3, li4, li5, li6, li7, li8, li9, li10, li11, li12, li13, li14, li15, li16, li17, li18, li19, li20, li21, li22, li23, li24, li25, li26, li27, li28, li29, li30, li31, li32, li39, li40, li41, li43, li47, li48, li57, li59, li60, li62, li63, li64, li81, li97, li99, li100, li122, li128, li152, li188, li189, li190, li191, li192, li255, li299, li380, li400, li488, li888, li999, li1000, li5368, li9999, neg1, b2i_z, b2i_o, b2i_e, b2i_t, b2i_f, oI_s, nI_on, on_nI, on_on, le_on, on_lt, on_le, lt_on, nI_leI, nI_ltI, nI_eq, nI_add, nI_mul, nI_subN, nI_subon, nI_addon, sh1, xorN, ite_true, ite_false, if_true, if_false, not_true_eq_false, not_false_eq_true, reduceCtorEq]
  rw [pk_rem (by omega) (by decide) (by decide), e_get (by rw [hl]; omega) (by rw [hl]; decide), bd_s, show B + 19 + 1 = B + 20 from rfl, c4 a r ha]
  rw [p0, p1, p2, p3, p4]
  by_cases k0 : k = 0
  · simp only [k0, if_true]
  · by_cases k1 : k = 1
    · subst k1; rfl
    · by_cases k2 : k = 2
      · subst k2; rfl
      · by_cases k3 : k = 3
        · subst k3; rfl
        · simp only [k0, k1, k2, k3, if_false]
theorem m_logged (W : WF v) (M : SM (σ 400) v) {a k : Nat} {r : Rw} (ha : v.log[a]? = some r) (hk : k < 5) : X12_logged σ (nI a) (nI k) = some (r.tell k) := by
  have h60 := W.log
  have hlt := (List.getElem?_eq_some_iff.mp ha).1
  obtain ⟨p0, p1, p2, p3, p4⟩ := M.log a r ha
  unfold X12_logged Rw.tell
  simp -implicitDefEqProofs (disch := omega) only [bd_s, bd2_s, bdx_l, bdx_r, bdx2_l, bdx2_r, pu_s, gb0, gb1, gb_b, li0, li1, li2, li3, li4, li5, li6, li7, li8, li9, li10, li11, li12, li13, li14, li15, li16, li17, li18, li19, li20, li21, li22, li23, li24, li25, li26, li27, li28, li29, li30, li31, li32, li39, li40, li41, li43, li47, li48, li57, li59, li60, li62, li63, li64, li81, li97, li99, li100, li122, li128, li152, li188, li189, li190, li191, li192, li255, li299, li380, li400, li488, li888, li999, li1000, li5368, li9999, neg1, b2i_z, b2i_o, b2i_e, b2i_t, b2i_f, oI_s, nI_on, on_nI, on_on, le_on, on_lt, on_le, lt_on, nI_leI, nI_ltI, nI_eq, nI_add, nI_mul, nI_subN, nI_subon, nI_addon, sh1, xorN, ite_true, ite_false, if_true, if_false, not_true_eq_false, not_false_eq_true, reduceCtorEq]
  rw [m_at (by omega), bd_s]
  by_cases k0 : k = 0
  · subst k0; rw [if_pos rfl]; exact congrArg some p0
  · by_cases k1 : k = 1
    · subst k1; exact congrArg some p1
    · by_cases k2 : k = 2
      · subst k2; exact congrArg some p2
      · by_cases k3 : k = 3
        · subst k3; exact congrArg some p3
        · rw [if_neg k0, if_neg k1, if_neg k2, if_neg k3, show k = 4 by omega]; exact congrArg some p4
end WAYS

/-! what is told of the street as it stands, both sides -/
noncomputable def View.oilAll (v : View) : Int32 := iterN (fun a p => a + nI (v.oil p)) (nI 0) v.n
noncomputable def View.litAll (v : View) : Int32 := iterN (fun a w => a + nI (v.lt w)) (nI 0) v.k
section SUMS
variable {σ : Mem} {B : Nat} {v : View} {e : Nat}
theorem e_oilOfAll (hB : kd B = 2) (W : WF v) (R : SC σ B v e) : X7_oilOfAll σ B = some v.oilAll := by
  have h9 := W.n9
  unfold X7_oilOfAll View.oilAll
  simp only [li0]
  refine loop_r (L := fun f a i => X7_oilOfAll_4 σ f B a i) (out := some) (fun f a => ?_) (fun f a i hi => ?_) _ (FUb (by omega))
  · simp (disch := omega) only [X7_oilOfAll_4, bd_s, bd2_s, bdx_l, bdx_r, bdx2_l, bdx2_r, pu_s, gb0, gb1, gb_b, li0, li1, li2, li3, li4, li5, li6, li7, li8, li9, li10, li11, li12, li13, li14, li15, li16, li17, li18, li19, li20, li21, li22, li23, li24, li25, li26, li27, li28, li29, li30, li31, li32, li39, li40, li41, li43, li47, li48, li57, li59, li60, li62, li63, li64, li81, li97, li99, li100, li122, li128, li152, li188, li189, li190, li191, li192, li255, li299, li380, li400, li488, li888, li999, li1000, li5368, li9999, neg1, b2i_z, b2i_o, b2i_e, b2i_t, b2i_f, oI_s, nI_on, on_nI, on_on, le_on, on_lt, on_le, lt_on, nI_leI, nI_ltI, nI_eq, nI_add, nI_mul, nI_subN, nI_subon, nI_addon, sh1, xorN, ite_true, ite_false, if_true, if_false, not_true_eq_false, not_false_eq_true, reduceCtorEq, G_oil hB W R, G_own hB W R, G_dark hB W R, G_way hB W R, G_pl hB W R, G_tp hB W R, G_hd hB W R, G_lt hB W R, R.n, R.k, R.hour, R.night, R.fog, R.mist, R.texts, R.seed, R.burn, e_isBurning W R, e_hasBit, e_bit, hbE, e_likesFor hB W R, e_hasWay hB W R, e_far hB W R, far_on, own_on W, hd_on W, own_is W, hd_is W, Nat.le_refl]
  · simp (disch := omega) only [X7_oilOfAll_4, bd_s, bd2_s, bdx_l, bdx_r, bdx2_l, bdx2_r, pu_s, gb0, gb1, gb_b, li0, li1, li2, li3, li4, li5, li6, li7, li8, li9, li10, li11, li12, li13, li14, li15, li16, li17, li18, li19, li20, li21, li22, li23, li24, li25, li26, li27, li28, li29, li30, li31, li32, li39, li40, li41, li43, li47, li48, li57, li59, li60, li62, li63, li64, li81, li97, li99, li100, li122, li128, li152, li188, li189, li190, li191, li192, li255, li299, li380, li400, li488, li888, li999, li1000, li5368, li9999, neg1, b2i_z, b2i_o, b2i_e, b2i_t, b2i_f, oI_s, nI_on, on_nI, on_on, le_on, on_lt, on_le, lt_on, nI_leI, nI_ltI, nI_eq, nI_add, nI_mul, nI_subN, nI_subon, nI_addon, sh1, xorN, ite_true, ite_false, if_true, if_false, not_true_eq_false, not_false_eq_true, reduceCtorEq, G_oil hB W R, G_own hB W R, G_dark hB W R, G_way hB W R, G_pl hB W R, G_tp hB W R, G_hd hB W R, G_lt hB W R, R.n, R.k, R.hour, R.night, R.fog, R.mist, R.texts, R.seed, R.burn, e_isBurning W R, e_hasBit, e_bit, hbE, e_likesFor hB W R, e_hasWay hB W R, e_far hB W R, far_on, own_on W, hd_on W, own_is W, hd_is W, show ¬ v.n ≤ i by omega]
theorem m_oilOfAll (W : WF v) (M : SM (σ 400) v) : X12_oilOfAll σ = some v.oilAll := by
  have h9 := W.n9
  unfold X12_oilOfAll View.oilAll
  simp only [li0]
  refine loop_r (L := fun f a i => X12_oilOfAll_4 σ f a i) (out := some) (fun f a => ?_) (fun f a i hi => ?_) _ (FUb (by omega))
  · simp (disch := omega) only [X12_oilOfAll_4, bd_s, bd2_s, bdx_l, bdx_r, bdx2_l, bdx2_r, pu_s, gb0, gb1, gb_b, li0, li1, li2, li3, li4, li5, li6, li7, li8, li9, li10, li11, li12, li13, li14, li15, li16, li17, li18, li19, li20, li21, li22, li23, li24, li25, li26, li27, li28, li29, li30, li31, li32, li39, li40, li41, li43, li47, li48, li57, li59, li60, li62, li63, li64, li81, li97, li99, li100, li122, li128, li152, li188, li189, li190, li191, li192, li255, li299, li380, li400, li488, li888, li999, li1000, li5368, li9999, neg1, b2i_z, b2i_o, b2i_e, b2i_t, b2i_f, oI_s, nI_on, on_nI, on_on, le_on, on_lt, on_le, lt_on, nI_leI, nI_ltI, nI_eq, nI_add, nI_mul, nI_subN, nI_subon, nI_addon, sh1, xorN, ite_true, ite_false, if_true, if_false, not_true_eq_false, not_false_eq_true, reduceCtorEq, o_oil W M, o_burn W M, o_own W M, o_dark W M, o_pl W M, o_tp W M, o_hd W M, o_lt W M, a_n M, a_k M, a_hour M, a_night M, a_fog M, a_mist M, a_logs M, a_seed M, a_texts M, e_isOf, hbE, m_isWay W M, m_far W M, m_nextTo W M, m_liking W M, m_likesOwner W M, m_lesser, m_greater, m_isIn, far_on, own_on W, hd_on W, own_is W, hd_is W, Nat.le_refl]
  · simp (disch := omega) only [X12_oilOfAll_4, bd_s, bd2_s, bdx_l, bdx_r, bdx2_l, bdx2_r, pu_s, gb0, gb1, gb_b, li0, li1, li2, li3, li4, li5, li6, li7, li8, li9, li10, li11, li12, li13, li14, li15, li16, li17, li18, li19, li20, li21, li22, li23, li24, li25, li26, li27, li28, li29, li30, li31, li32, li39, li40, li41, li43, li47, li48, li57, li59, li60, li62, li63, li64, li81, li97, li99, li100, li122, li128, li152, li188, li189, li190, li191, li192, li255, li299, li380, li400, li488, li888, li999, li1000, li5368, li9999, neg1, b2i_z, b2i_o, b2i_e, b2i_t, b2i_f, oI_s, nI_on, on_nI, on_on, le_on, on_lt, on_le, lt_on, nI_leI, nI_ltI, nI_eq, nI_add, nI_mul, nI_subN, nI_subon, nI_addon, sh1, xorN, ite_true, ite_false, if_true, if_false, not_true_eq_false, not_false_eq_true, reduceCtorEq, o_oil W M, o_burn W M, o_own W M, o_dark W M, o_pl W M, o_tp W M, o_hd W M, o_lt W M, a_n M, a_k M, a_hour M, a_night M, a_fog M, a_mist M, a_logs M, a_seed M, a_texts M, e_isOf, hbE, m_isWay W M, m_far W M, m_nextTo W M, m_liking W M, m_likesOwner W M, m_lesser, m_greater, m_isIn, far_on, own_on W, hd_on W, own_is W, hd_is W, show ¬ v.n ≤ i by omega]
theorem e_litByAll (hB : kd B = 2) (W : WF v) (R : SC σ B v e) : X7_litByAll σ B = some v.litAll := by
  have h9 := W.k6
  unfold X7_litByAll View.litAll
  simp only [li0]
  refine loop_r (L := fun f a i => X7_litByAll_4 σ f B a i) (out := some) (fun f a => ?_) (fun f a i hi => ?_) _ (FUb (by omega))
  · simp (disch := omega) only [X7_litByAll_4, bd_s, bd2_s, bdx_l, bdx_r, bdx2_l, bdx2_r, pu_s, gb0, gb1, gb_b, li0, li1, li2, li3, li4, li5, li6, li7, li8, li9, li10, li11, li12, li13, li14, li15, li16, li17, li18, li19, li20, li21, li22, li23, li24, li25, li26, li27, li28, li29, li30, li31, li32, li39, li40, li41, li43, li47, li48, li57, li59, li60, li62, li63, li64, li81, li97, li99, li100, li122, li128, li152, li188, li189, li190, li191, li192, li255, li299, li380, li400, li488, li888, li999, li1000, li5368, li9999, neg1, b2i_z, b2i_o, b2i_e, b2i_t, b2i_f, oI_s, nI_on, on_nI, on_on, le_on, on_lt, on_le, lt_on, nI_leI, nI_ltI, nI_eq, nI_add, nI_mul, nI_subN, nI_subon, nI_addon, sh1, xorN, ite_true, ite_false, if_true, if_false, not_true_eq_false, not_false_eq_true, reduceCtorEq, G_oil hB W R, G_own hB W R, G_dark hB W R, G_way hB W R, G_pl hB W R, G_tp hB W R, G_hd hB W R, G_lt hB W R, R.n, R.k, R.hour, R.night, R.fog, R.mist, R.texts, R.seed, R.burn, e_isBurning W R, e_hasBit, e_bit, hbE, e_likesFor hB W R, e_hasWay hB W R, e_far hB W R, far_on, own_on W, hd_on W, own_is W, hd_is W, Nat.le_refl]
  · simp (disch := omega) only [X7_litByAll_4, bd_s, bd2_s, bdx_l, bdx_r, bdx2_l, bdx2_r, pu_s, gb0, gb1, gb_b, li0, li1, li2, li3, li4, li5, li6, li7, li8, li9, li10, li11, li12, li13, li14, li15, li16, li17, li18, li19, li20, li21, li22, li23, li24, li25, li26, li27, li28, li29, li30, li31, li32, li39, li40, li41, li43, li47, li48, li57, li59, li60, li62, li63, li64, li81, li97, li99, li100, li122, li128, li152, li188, li189, li190, li191, li192, li255, li299, li380, li400, li488, li888, li999, li1000, li5368, li9999, neg1, b2i_z, b2i_o, b2i_e, b2i_t, b2i_f, oI_s, nI_on, on_nI, on_on, le_on, on_lt, on_le, lt_on, nI_leI, nI_ltI, nI_eq, nI_add, nI_mul, nI_subN, nI_subon, nI_addon, sh1, xorN, ite_true, ite_false, if_true, if_false, not_true_eq_false, not_false_eq_true, reduceCtorEq, G_oil hB W R, G_own hB W R, G_dark hB W R, G_way hB W R, G_pl hB W R, G_tp hB W R, G_hd hB W R, G_lt hB W R, R.n, R.k, R.hour, R.night, R.fog, R.mist, R.texts, R.seed, R.burn, e_isBurning W R, e_hasBit, e_bit, hbE, e_likesFor hB W R, e_hasWay hB W R, e_far hB W R, far_on, own_on W, hd_on W, own_is W, hd_is W, show ¬ v.k ≤ i by omega]
theorem m_litOfAll (W : WF v) (M : SM (σ 400) v) : X12_litOfAll σ = some v.litAll := by
  have h9 := W.k6
  unfold X12_litOfAll View.litAll
  simp only [li0]
  refine loop_r (L := fun f a i => X12_litOfAll_4 σ f a i) (out := some) (fun f a => ?_) (fun f a i hi => ?_) _ (FUb (by omega))
  · simp (disch := omega) only [X12_litOfAll_4, bd_s, bd2_s, bdx_l, bdx_r, bdx2_l, bdx2_r, pu_s, gb0, gb1, gb_b, li0, li1, li2, li3, li4, li5, li6, li7, li8, li9, li10, li11, li12, li13, li14, li15, li16, li17, li18, li19, li20, li21, li22, li23, li24, li25, li26, li27, li28, li29, li30, li31, li32, li39, li40, li41, li43, li47, li48, li57, li59, li60, li62, li63, li64, li81, li97, li99, li100, li122, li128, li152, li188, li189, li190, li191, li192, li255, li299, li380, li400, li488, li888, li999, li1000, li5368, li9999, neg1, b2i_z, b2i_o, b2i_e, b2i_t, b2i_f, oI_s, nI_on, on_nI, on_on, le_on, on_lt, on_le, lt_on, nI_leI, nI_ltI, nI_eq, nI_add, nI_mul, nI_subN, nI_subon, nI_addon, sh1, xorN, ite_true, ite_false, if_true, if_false, not_true_eq_false, not_false_eq_true, reduceCtorEq, o_oil W M, o_burn W M, o_own W M, o_dark W M, o_pl W M, o_tp W M, o_hd W M, o_lt W M, a_n M, a_k M, a_hour M, a_night M, a_fog M, a_mist M, a_logs M, a_seed M, a_texts M, e_isOf, hbE, m_isWay W M, m_far W M, m_nextTo W M, m_liking W M, m_likesOwner W M, m_lesser, m_greater, m_isIn, far_on, own_on W, hd_on W, own_is W, hd_is W, Nat.le_refl]
  · simp (disch := omega) only [X12_litOfAll_4, bd_s, bd2_s, bdx_l, bdx_r, bdx2_l, bdx2_r, pu_s, gb0, gb1, gb_b, li0, li1, li2, li3, li4, li5, li6, li7, li8, li9, li10, li11, li12, li13, li14, li15, li16, li17, li18, li19, li20, li21, li22, li23, li24, li25, li26, li27, li28, li29, li30, li31, li32, li39, li40, li41, li43, li47, li48, li57, li59, li60, li62, li63, li64, li81, li97, li99, li100, li122, li128, li152, li188, li189, li190, li191, li192, li255, li299, li380, li400, li488, li888, li999, li1000, li5368, li9999, neg1, b2i_z, b2i_o, b2i_e, b2i_t, b2i_f, oI_s, nI_on, on_nI, on_on, le_on, on_lt, on_le, lt_on, nI_leI, nI_ltI, nI_eq, nI_add, nI_mul, nI_subN, nI_subon, nI_addon, sh1, xorN, ite_true, ite_false, if_true, if_false, not_true_eq_false, not_false_eq_true, reduceCtorEq, o_oil W M, o_burn W M, o_own W M, o_dark W M, o_pl W M, o_tp W M, o_hd W M, o_lt W M, a_n M, a_k M, a_hour M, a_night M, a_fog M, a_mist M, a_logs M, a_seed M, a_texts M, e_isOf, hbE, m_isWay W M, m_far W M, m_nextTo W M, m_liking W M, m_likesOwner W M, m_lesser, m_greater, m_isIn, far_on, own_on W, hd_on W, own_is W, hd_is W, show ¬ v.k ≤ i by omega]
end SUMS
noncomputable def View.brighter (v : View) : Option Nat → Nat → Option Nat := fun a p => match a with
  | none => some p
  | some x => if v.dark p ≤ v.dark x then a else some p
noncomputable def View.busier (v : View) : Option Nat → Nat → Option Nat := fun a w => if v.lt w ≤ a.elim 0 v.lt then a else some w
theorem iter_opt {g : Option Nat → Nat → Option Nat} (h : ∀ a i, g a i = a ∨ g a i = some i) : ∀ {n w : Nat}, iterN g none n = some w → w < n := by
  intro n
  induction n with
  | zero => intro w h2; cases h2
  | succ n ih =>
    intro w h2
    rw [iterN] at h2
    rcases h (iterN g none n) n with e | e
    · rw [e] at h2; have := ih h2; omega
    · rw [e] at h2; cases h2; omega
section SUMS
variable {σ : Mem} {B : Nat} {v : View} {e : Nat}
theorem brighter_lt {n w : Nat} : iterN v.brighter none n = some w → w < n := iter_opt fun a i => by
  unfold View.brighter
  cases a with
  | none => exact Or.inr rfl
  | some x => simp only; split <;> simp
theorem busier_lt {n w : Nat} : iterN v.busier none n = some w → w < n := iter_opt fun a i => by
  unfold View.busier
  split
  · exact Or.inl rfl
  · exact Or.inr rfl
theorem e_darkest (hB : kd B = 2) (W : WF v) (R : SC σ B v e) : X7_darkest σ B = some (oI (iterN v.brighter none v.n)) := by
  have h9 := W.n9
  unfold X7_darkest
  simp only [li0, li1, neg1]
  refine loop_P (L := fun f a i => X7_darkest_4 σ f B a i) (P := fun i a => a = oI (iterN v.brighter none i)) (Q := fun r => r = some (oI (iterN v.brighter none v.n))) (n := v.n) (fun f a hP => ?_) (fun f a i hi hP => Or.inr ?_) (Nat.zero_le _) (FUb (by omega)) rfl
  · simp -implicitDefEqProofs (disch := omega) only [X7_darkest_4, Nat.le_refl, hP, bd_s, bd2_s, bdx_l, bdx_r, bdx2_l, bdx2_r, pu_s, gb0, gb1, gb_b, li0, li1, li2, li3, li4, li5, li6, li7, li8, li9, li10, li11, li12, li13, li14, li15, li16, li17, li18, li19, li20, li21, li22, li23, li24, li25, li26, li27, li28, li29, li30, li31, li32, li39, li40, li41, li43, li47, li48, li57, li59, li60, li62, li63, li64, li81, li97, li99, li100, li122, li128, li152, li188, li189, li190, li191, li192, li255, li299, li380, li400, li488, li888, li999, li1000, li5368, li9999, neg1, b2i_z, b2i_o, b2i_e, b2i_t, b2i_f, oI_s, nI_on, on_nI, on_on, le_on, on_lt, on_le, lt_on, nI_leI, nI_ltI, nI_eq, nI_add, nI_mul, nI_subN, nI_subon, nI_addon, sh1, xorN, ite_true, ite_false, if_true, if_false, not_true_eq_false, not_false_eq_true, reduceCtorEq, G_oil hB W R, G_own hB W R, G_dark hB W R, G_way hB W R, G_pl hB W R, G_tp hB W R, G_hd hB W R, G_lt hB W R, R.n, R.k, R.hour, R.night, R.fog, R.mist, R.texts, R.seed, R.burn, e_isBurning W R, e_hasBit, e_bit, hbE, e_likesFor hB W R, e_hasWay hB W R, e_far hB W R, far_on, own_on W, hd_on W, own_is W, hd_is W]
  · refine ⟨oI (iterN v.brighter none (i + 1)), ?_, rfl⟩
    rw [iterN]
    subst hP
    cases hs : iterN v.brighter none i with
    | none => simp -implicitDefEqProofs (disch := omega) only [X7_darkest_4, X7_darkest_36, show ¬ v.n ≤ i by omega, View.brighter, bd_s, bd2_s, bdx_l, bdx_r, bdx2_l, bdx2_r, pu_s, gb0, gb1, gb_b, li0, li1, li2, li3, li4, li5, li6, li7, li8, li9, li10, li11, li12, li13, li14, li15, li16, li17, li18, li19, li20, li21, li22, li23, li24, li25, li26, li27, li28, li29, li30, li31, li32, li39, li40, li41, li43, li47, li48, li57, li59, li60, li62, li63, li64, li81, li97, li99, li100, li122, li128, li152, li188, li189, li190, li191, li192, li255, li299, li380, li400, li488, li888, li999, li1000, li5368, li9999, neg1, b2i_z, b2i_o, b2i_e, b2i_t, b2i_f, oI_s, nI_on, on_nI, on_on, le_on, on_lt, on_le, lt_on, nI_leI, nI_ltI, nI_eq, nI_add, nI_mul, nI_subN, nI_subon, nI_addon, sh1, xorN, ite_true, ite_false, if_true, if_false, not_true_eq_false, not_false_eq_true, reduceCtorEq, G_oil hB W R, G_own hB W R, G_dark hB W R, G_way hB W R, G_pl hB W R, G_tp hB W R, G_hd hB W R, G_lt hB W R, R.n, R.k, R.hour, R.night, R.fog, R.mist, R.texts, R.seed, R.burn, e_isBurning W R, e_hasBit, e_bit, hbE, e_likesFor hB W R, e_hasWay hB W R, e_far hB W R, far_on, own_on W, hd_on W, own_is W, hd_is W]
    | some x =>
      have := brighter_lt hs
      have := W.dark i hi
      have := W.dark x (by omega)
      simp -implicitDefEqProofs (disch := omega) only [X7_darkest_4, X7_darkest_36, show ¬ v.n ≤ i by omega, View.brighter, bd_s, bd2_s, bdx_l, bdx_r, bdx2_l, bdx2_r, pu_s, gb0, gb1, gb_b, li0, li1, li2, li3, li4, li5, li6, li7, li8, li9, li10, li11, li12, li13, li14, li15, li16, li17, li18, li19, li20, li21, li22, li23, li24, li25, li26, li27, li28, li29, li30, li31, li32, li39, li40, li41, li43, li47, li48, li57, li59, li60, li62, li63, li64, li81, li97, li99, li100, li122, li128, li152, li188, li189, li190, li191, li192, li255, li299, li380, li400, li488, li888, li999, li1000, li5368, li9999, neg1, b2i_z, b2i_o, b2i_e, b2i_t, b2i_f, oI_s, nI_on, on_nI, on_on, le_on, on_lt, on_le, lt_on, nI_leI, nI_ltI, nI_eq, nI_add, nI_mul, nI_subN, nI_subon, nI_addon, sh1, xorN, ite_true, ite_false, if_true, if_false, not_true_eq_false, not_false_eq_true, reduceCtorEq, G_oil hB W R, G_own hB W R, G_dark hB W R, G_way hB W R, G_pl hB W R, G_tp hB W R, G_hd hB W R, G_lt hB W R, R.n, R.k, R.hour, R.night, R.fog, R.mist, R.texts, R.seed, R.burn, e_isBurning W R, e_hasBit, e_bit, hbE, e_likesFor hB W R, e_hasWay hB W R, e_far hB W R, far_on, own_on W, hd_on W, own_is W, hd_is W]
      split <;> rfl
theorem m_gloom (W : WF v) (M : SM (σ 400) v) : X12_gloom_9 FU (oI none) (nI 0) σ = some (oI (iterN v.brighter none v.n), σ) := by
  have h9 := W.n9
  refine loop_P (L := fun f a i => X12_gloom_9 f a i σ) (P := fun i a => a = oI (iterN v.brighter none i)) (Q := fun r => r = some (oI (iterN v.brighter none v.n), σ)) (n := v.n) (fun f a hP => ?_) (fun f a i hi hP => Or.inr ?_) (Nat.zero_le _) (FUb (by omega)) rfl
  · simp -implicitDefEqProofs (disch := omega) only [X12_gloom_9, Nat.le_refl, hP, bd_s, bd2_s, bdx_l, bdx_r, bdx2_l, bdx2_r, pu_s, gb0, gb1, gb_b, li0, li1, li2, li3, li4, li5, li6, li7, li8, li9, li10, li11, li12, li13, li14, li15, li16, li17, li18, li19, li20, li21, li22, li23, li24, li25, li26, li27, li28, li29, li30, li31, li32, li39, li40, li41, li43, li47, li48, li57, li59, li60, li62, li63, li64, li81, li97, li99, li100, li122, li128, li152, li188, li189, li190, li191, li192, li255, li299, li380, li400, li488, li888, li999, li1000, li5368, li9999, neg1, b2i_z, b2i_o, b2i_e, b2i_t, b2i_f, oI_s, nI_on, on_nI, on_on, le_on, on_lt, on_le, lt_on, nI_leI, nI_ltI, nI_eq, nI_add, nI_mul, nI_subN, nI_subon, nI_addon, sh1, xorN, ite_true, ite_false, if_true, if_false, not_true_eq_false, not_false_eq_true, reduceCtorEq, o_oil W M, o_burn W M, o_own W M, o_dark W M, o_pl W M, o_tp W M, o_hd W M, o_lt W M, a_n M, a_k M, a_hour M, a_night M, a_fog M, a_mist M, a_logs M, a_seed M, a_texts M, e_isOf, hbE, m_isWay W M, m_far W M, m_nextTo W M, m_liking W M, m_likesOwner W M, m_lesser, m_greater, m_isIn, far_on, own_on W, hd_on W, own_is W, hd_is W]
  · refine ⟨oI (iterN v.brighter none (i + 1)), ?_, rfl⟩
    rw [iterN]
    subst hP
    cases hs : iterN v.brighter none i with
    | none => simp -implicitDefEqProofs (disch := omega) only [X12_gloom_9, X12_gloom_39, show ¬ v.n ≤ i by omega, View.brighter, bd_s, bd2_s, bdx_l, bdx_r, bdx2_l, bdx2_r, pu_s, gb0, gb1, gb_b, li0, li1, li2, li3, li4, li5, li6, li7, li8, li9, li10, li11, li12, li13, li14, li15, li16, li17, li18, li19, li20, li21, li22, li23, li24, li25, li26, li27, li28, li29, li30, li31, li32, li39, li40, li41, li43, li47, li48, li57, li59, li60, li62, li63, li64, li81, li97, li99, li100, li122, li128, li152, li188, li189, li190, li191, li192, li255, li299, li380, li400, li488, li888, li999, li1000, li5368, li9999, neg1, b2i_z, b2i_o, b2i_e, b2i_t, b2i_f, oI_s, nI_on, on_nI, on_on, le_on, on_lt, on_le, lt_on, nI_leI, nI_ltI, nI_eq, nI_add, nI_mul, nI_subN, nI_subon, nI_addon, sh1, xorN, ite_true, ite_false, if_true, if_false, not_true_eq_false, not_false_eq_true, reduceCtorEq, o_oil W M, o_burn W M, o_own W M, o_dark W M, o_pl W M, o_tp W M, o_hd W M, o_lt W M, a_n M, a_k M, a_hour M, a_night M, a_fog M, a_mist M, a_logs M, a_seed M, a_texts M, e_isOf, hbE, m_isWay W M, m_far W M, m_nextTo W M, m_liking W M, m_likesOwner W M, m_lesser, m_greater, m_isIn, far_on, own_on W, hd_on W, own_is W, hd_is W]
    | some x =>
      have := brighter_lt hs
      have := W.dark i hi
      have := W.dark x (by omega)
      simp -implicitDefEqProofs (disch := omega) only [X12_gloom_9, X12_gloom_39, show ¬ v.n ≤ i by omega, View.brighter, bd_s, bd2_s, bdx_l, bdx_r, bdx2_l, bdx2_r, pu_s, gb0, gb1, gb_b, li0, li1, li2, li3, li4, li5, li6, li7, li8, li9, li10, li11, li12, li13, li14, li15, li16, li17, li18, li19, li20, li21, li22, li23, li24, li25, li26, li27, li28, li29, li30, li31, li32, li39, li40, li41, li43, li47, li48, li57, li59, li60, li62, li63, li64, li81, li97, li99, li100, li122, li128, li152, li188, li189, li190, li191, li192, li255, li299, li380, li400, li488, li888, li999, li1000, li5368, li9999, neg1, b2i_z, b2i_o, b2i_e, b2i_t, b2i_f, oI_s, nI_on, on_nI, on_on, le_on, on_lt, on_le, lt_on, nI_leI, nI_ltI, nI_eq, nI_add, nI_mul, nI_subN, nI_subon, nI_addon, sh1, xorN, ite_true, ite_false, if_true, if_false, not_true_eq_false, not_false_eq_true, reduceCtorEq, o_oil W M, o_burn W M, o_own W M, o_dark W M, o_pl W M, o_tp W M, o_hd W M, o_lt W M, a_n M, a_k M, a_hour M, a_night M, a_fog M, a_mist M, a_logs M, a_seed M, a_texts M, e_isOf, hbE, m_isWay W M, m_far W M, m_nextTo W M, m_liking W M, m_likesOwner W M, m_lesser, m_greater, m_isIn, far_on, own_on W, hd_on W, own_is W, hd_is W]
      split <;> rfl
theorem e_busiest (hB : kd B = 2) (W : WF v) (R : SC σ B v e) : X7_busiest σ B = some (oI (iterN v.busier none v.k)) := by
  have h9 := W.k6
  unfold X7_busiest
  simp only [li0, li1, neg1]
  refine loop_P (L := fun f (a : Int32 × Int32) i => X7_busiest_6 σ f B a.1 a.2 i) (P := fun i a => a = (oI (iterN v.busier none i), nI ((iterN v.busier none i).elim 0 v.lt))) (Q := fun r => r = some (oI (iterN v.busier none v.k))) (n := v.k) (a := (oI none, nI 0)) (fun f a hP => ?_) (fun f a i hi hP => Or.inr ?_) (Nat.zero_le _) (FUb (by omega)) rfl
  · subst hP
    simp -implicitDefEqProofs (disch := omega) only [X7_busiest_6, Nat.le_refl, bd_s, bd2_s, bdx_l, bdx_r, bdx2_l, bdx2_r, pu_s, gb0, gb1, gb_b, li0, li1, li2, li3, li4, li5, li6, li7, li8, li9, li10, li11, li12, li13, li14, li15, li16, li17, li18, li19, li20, li21, li22, li23, li24, li25, li26, li27, li28, li29, li30, li31, li32, li39, li40, li41, li43, li47, li48, li57, li59, li60, li62, li63, li64, li81, li97, li99, li100, li122, li128, li152, li188, li189, li190, li191, li192, li255, li299, li380, li400, li488, li888, li999, li1000, li5368, li9999, neg1, b2i_z, b2i_o, b2i_e, b2i_t, b2i_f, oI_s, nI_on, on_nI, on_on, le_on, on_lt, on_le, lt_on, nI_leI, nI_ltI, nI_eq, nI_add, nI_mul, nI_subN, nI_subon, nI_addon, sh1, xorN, ite_true, ite_false, if_true, if_false, not_true_eq_false, not_false_eq_true, reduceCtorEq, G_oil hB W R, G_own hB W R, G_dark hB W R, G_way hB W R, G_pl hB W R, G_tp hB W R, G_hd hB W R, G_lt hB W R, R.n, R.k, R.hour, R.night, R.fog, R.mist, R.texts, R.seed, R.burn, e_isBurning W R, e_hasBit, e_bit, hbE, e_likesFor hB W R, e_hasWay hB W R, e_far hB W R, far_on, own_on W, hd_on W, own_is W, hd_is W]
  · refine ⟨_, ?_, rfl⟩
    rw [iterN]
    subst hP
    have h1 := W.lt i hi
    have h2 : (iterN v.busier none i).elim 0 v.lt ≤ 999 := by
      cases hs : iterN v.busier none i with
      | none => exact Nat.zero_le _
      | some x => have := busier_lt hs; exact W.lt x (by omega)
    generalize iterN v.busier none i = s at h2 ⊢
    by_cases h : v.lt i ≤ s.elim 0 v.lt
    · rw [show v.busier s i = s from if_pos h]
      simp -implicitDefEqProofs (disch := omega) only [X7_busiest_6, show ¬ v.k ≤ i by omega, h, bd_s, bd2_s, bdx_l, bdx_r, bdx2_l, bdx2_r, pu_s, gb0, gb1, gb_b, li0, li1, li2, li3, li4, li5, li6, li7, li8, li9, li10, li11, li12, li13, li14, li15, li16, li17, li18, li19, li20, li21, li22, li23, li24, li25, li26, li27, li28, li29, li30, li31, li32, li39, li40, li41, li43, li47, li48, li57, li59, li60, li62, li63, li64, li81, li97, li99, li100, li122, li128, li152, li188, li189, li190, li191, li192, li255, li299, li380, li400, li488, li888, li999, li1000, li5368, li9999, neg1, b2i_z, b2i_o, b2i_e, b2i_t, b2i_f, oI_s, nI_on, on_nI, on_on, le_on, on_lt, on_le, lt_on, nI_leI, nI_ltI, nI_eq, nI_add, nI_mul, nI_subN, nI_subon, nI_addon, sh1, xorN, ite_true, ite_false, if_true, if_false, not_true_eq_false, not_false_eq_true, reduceCtorEq, G_oil hB W R, G_own hB W R, G_dark hB W R, G_way hB W R, G_pl hB W R, G_tp hB W R, G_hd hB W R, G_lt hB W R, R.n, R.k, R.hour, R.night, R.fog, R.mist, R.texts, R.seed, R.burn, e_isBurning W R, e_hasBit, e_bit, hbE, e_likesFor hB W R, e_hasWay hB W R, e_far hB W R, far_on, own_on W, hd_on W, own_is W, hd_is W]
    · rw [show v.busier s i = some i from if_neg h]
      simp -implicitDefEqProofs (disch := omega) only [X7_busiest_6, show ¬ v.k ≤ i by omega, h, Option.elim_some, bd_s, bd2_s, bdx_l, bdx_r, bdx2_l, bdx2_r, pu_s, gb0, gb1, gb_b, li0, li1, li2, li3, li4, li5, li6, li7, li8, li9, li10, li11, li12, li13, li14, li15, li16, li17, li18, li19, li20, li21, li22, li23, li24, li25, li26, li27, li28, li29, li30, li31, li32, li39, li40, li41, li43, li47, li48, li57, li59, li60, li62, li63, li64, li81, li97, li99, li100, li122, li128, li152, li188, li189, li190, li191, li192, li255, li299, li380, li400, li488, li888, li999, li1000, li5368, li9999, neg1, b2i_z, b2i_o, b2i_e, b2i_t, b2i_f, oI_s, nI_on, on_nI, on_on, le_on, on_lt, on_le, lt_on, nI_leI, nI_ltI, nI_eq, nI_add, nI_mul, nI_subN, nI_subon, nI_addon, sh1, xorN, ite_true, ite_false, if_true, if_false, not_true_eq_false, not_false_eq_true, reduceCtorEq, G_oil hB W R, G_own hB W R, G_dark hB W R, G_way hB W R, G_pl hB W R, G_tp hB W R, G_hd hB W R, G_lt hB W R, R.n, R.k, R.hour, R.night, R.fog, R.mist, R.texts, R.seed, R.burn, e_isBurning W R, e_hasBit, e_bit, hbE, e_likesFor hB W R, e_hasWay hB W R, e_far hB W R, far_on, own_on W, hd_on W, own_is W, hd_is W]
theorem m_lamplighter (W : WF v) (M : SM (σ 400) v) : X12_lamplighter_9 FU (oI none) (nI 0) σ = some (oI (iterN v.busier none v.k), σ) := by
  have h9 := W.k6
  refine loop_P (L := fun f a i => X12_lamplighter_9 f a i σ) (P := fun i a => a = oI (iterN v.busier none i)) (Q := fun r => r = some (oI (iterN v.busier none v.k), σ)) (n := v.k) (fun f a hP => ?_) (fun f a i hi hP => Or.inr ?_) (Nat.zero_le _) (FUb (by omega)) rfl
  · simp -implicitDefEqProofs (disch := omega) only [X12_lamplighter_9, Nat.le_refl, hP, bd_s, bd2_s, bdx_l, bdx_r, bdx2_l, bdx2_r, pu_s, gb0, gb1, gb_b, li0, li1, li2, li3, li4, li5, li6, li7, li8, li9, li10, li11, li12, li13, li14, li15, li16, li17, li18, li19, li20, li21, li22, li23, li24, li25, li26, li27, li28, li29, li30, li31, li32, li39, li40, li41, li43, li47, li48, li57, li59, li60, li62, li63, li64, li81, li97, li99, li100, li122, li128, li152, li188, li189, li190, li191, li192, li255, li299, li380, li400, li488, li888, li999, li1000, li5368, li9999, neg1, b2i_z, b2i_o, b2i_e, b2i_t, b2i_f, oI_s, nI_on, on_nI, on_on, le_on, on_lt, on_le, lt_on, nI_leI, nI_ltI, nI_eq, nI_add, nI_mul, nI_subN, nI_subon, nI_addon, sh1, xorN, ite_true, ite_false, if_true, if_false, not_true_eq_false, not_false_eq_true, reduceCtorEq, o_oil W M, o_burn W M, o_own W M, o_dark W M, o_pl W M, o_tp W M, o_hd W M, o_lt W M, a_n M, a_k M, a_hour M, a_night M, a_fog M, a_mist M, a_logs M, a_seed M, a_texts M, e_isOf, hbE, m_isWay W M, m_far W M, m_nextTo W M, m_liking W M, m_likesOwner W M, m_lesser, m_greater, m_isIn, far_on, own_on W, hd_on W, own_is W, hd_is W]
  · refine ⟨oI (iterN v.busier none (i + 1)), ?_, rfl⟩
    rw [iterN]
    subst hP
    have h1 := W.lt i hi
    cases hs : iterN v.busier none i with
    | none =>
      simp -implicitDefEqProofs (disch := omega) only [X12_lamplighter_9, X12_lamplighter_40, show ¬ v.k ≤ i by omega, View.busier, Option.elim_none, bd_s, bd2_s, bdx_l, bdx_r, bdx2_l, bdx2_r, pu_s, gb0, gb1, gb_b, li0, li1, li2, li3, li4, li5, li6, li7, li8, li9, li10, li11, li12, li13, li14, li15, li16, li17, li18, li19, li20, li21, li22, li23, li24, li25, li26, li27, li28, li29, li30, li31, li32, li39, li40, li41, li43, li47, li48, li57, li59, li60, li62, li63, li64, li81, li97, li99, li100, li122, li128, li152, li188, li189, li190, li191, li192, li255, li299, li380, li400, li488, li888, li999, li1000, li5368, li9999, neg1, b2i_z, b2i_o, b2i_e, b2i_t, b2i_f, oI_s, nI_on, on_nI, on_on, le_on, on_lt, on_le, lt_on, nI_leI, nI_ltI, nI_eq, nI_add, nI_mul, nI_subN, nI_subon, nI_addon, sh1, xorN, ite_true, ite_false, if_true, if_false, not_true_eq_false, not_false_eq_true, reduceCtorEq, o_oil W M, o_burn W M, o_own W M, o_dark W M, o_pl W M, o_tp W M, o_hd W M, o_lt W M, a_n M, a_k M, a_hour M, a_night M, a_fog M, a_mist M, a_logs M, a_seed M, a_texts M, e_isOf, hbE, m_isWay W M, m_far W M, m_nextTo W M, m_liking W M, m_likesOwner W M, m_lesser, m_greater, m_isIn, far_on, own_on W, hd_on W, own_is W, hd_is W]
      split <;> rfl
    | some x =>
      have := busier_lt hs
      have := W.lt x (by omega)
      simp -implicitDefEqProofs (disch := omega) only [X12_lamplighter_9, X12_lamplighter_40, show ¬ v.k ≤ i by omega, View.busier, Option.elim_some, bd_s, bd2_s, bdx_l, bdx_r, bdx2_l, bdx2_r, pu_s, gb0, gb1, gb_b, li0, li1, li2, li3, li4, li5, li6, li7, li8, li9, li10, li11, li12, li13, li14, li15, li16, li17, li18, li19, li20, li21, li22, li23, li24, li25, li26, li27, li28, li29, li30, li31, li32, li39, li40, li41, li43, li47, li48, li57, li59, li60, li62, li63, li64, li81, li97, li99, li100, li122, li128, li152, li188, li189, li190, li191, li192, li255, li299, li380, li400, li488, li888, li999, li1000, li5368, li9999, neg1, b2i_z, b2i_o, b2i_e, b2i_t, b2i_f, oI_s, nI_on, on_nI, on_on, le_on, on_lt, on_le, lt_on, nI_leI, nI_ltI, nI_eq, nI_add, nI_mul, nI_subN, nI_subon, nI_addon, sh1, xorN, ite_true, ite_false, if_true, if_false, not_true_eq_false, not_false_eq_true, reduceCtorEq, o_oil W M, o_burn W M, o_own W M, o_dark W M, o_pl W M, o_tp W M, o_hd W M, o_lt W M, a_n M, a_k M, a_hour M, a_night M, a_fog M, a_mist M, a_logs M, a_seed M, a_texts M, e_isOf, hbE, m_isWay W M, m_far W M, m_nextTo W M, m_liking W M, m_likesOwner W M, m_lesser, m_greater, m_isIn, far_on, own_on W, hd_on W, own_is W, hd_is W]
      split <;> rfl
noncomputable def View.spentB (v : View) : Nat → Bool := fun w => decide (v.tp w = 0)
theorem or_bit {f : Nat → Bool} {n i : Nat} (hn : n ≤ 31) (hi : i < n) : mkB (fun x => decide (x < i) && f x) n ||| bitv i = mkB (fun x => decide (x < i) && f x || decide (x = i)) n := by
  rw [mk_bit hn hi, mk_or hn]
theorem mk_step {f : Nat → Bool} {n i : Nat} (hn : n ≤ 31) (hi : i < n) : mkB (fun x => decide (x < i + 1) && f x) n = if f i = true then mkB (fun x => decide (x < i) && f x) n ||| bitv i else mkB (fun x => decide (x < i) && f x) n := by
  split
  · rename_i h
    rw [or_bit hn hi]
    refine mk_congr fun x hx => ?_
    by_cases e : x = i
    · subst e; simp [h]
    · have : decide (x < i + 1) = decide (x < i) := by simp; omega
      rw [this, decide_eq_false e, Bool.or_false]
  · rename_i h
    refine mk_congr fun x hx => ?_
    by_cases e : x = i
    · subst e; simp [h]
    · have : decide (x < i + 1) = decide (x < i) := by simp; omega
      rw [this]
theorem mk_all_lt {f : Nat → Bool} {n : Nat} : mkB (fun x => decide (x < n) && f x) n = mkB f n := mk_congr fun x hx => by rw [decide_eq_true hx, Bool.true_and]
theorem mk_none_lt {f : Nat → Bool} {n : Nat} (hn : n ≤ 31) : mkB (fun x => decide (x < 0) && f x) n = nI 0 := by
  rw [show nI 0 = (0 : Int32) from rfl, mk_0 (n := n) hn]
  exact mk_congr fun x hx => by simp
theorem or_0 {x : Int32} : x ||| nI 0 = x := ext32 fun i hi => by rw [hb_or hi, show nI 0 = (0 : Int32) from rfl, hb_0 hi, Bool.or_false]
/-- a set is gathered one by one: what a loop holds at i -/
def upTo (f : Nat → Bool) (n i : Nat) : Int32 := mkB (fun x => decide (x < i) && f x) n
theorem upTo_0 {f : Nat → Bool} {n : Nat} (hn : n ≤ 31) : upTo f n 0 = nI 0 := mk_none_lt hn
theorem upTo_n {f : Nat → Bool} {n : Nat} : upTo f n n = mkB f n := mk_all_lt
theorem upTo_s {f : Nat → Bool} {n i : Nat} (hn : n ≤ 31) (hi : i < n) : upTo f n (i + 1) = if f i = true then upTo f n i ||| bitv i else upTo f n i := mk_step hn hi
theorem e_withoutTaper (hB : kd B = 2) (W : WF v) (R : SC σ B v e) : X7_withoutTaper σ B = some (mkB v.spentB v.k) := by
  have h9 := W.k6
  unfold X7_withoutTaper
  simp only [li0]
  refine loop_P (L := fun f a i => X7_withoutTaper_4 σ f B a i) (P := fun i a => a = upTo v.spentB v.k i) (Q := fun r => r = some (mkB v.spentB v.k)) (n := v.k) (fun f a hP => ?_) (fun f a i hi hP => Or.inr ?_) (Nat.zero_le _) (FUb (by omega)) (upTo_0 (by omega)).symm
  · simp -implicitDefEqProofs (disch := omega) only [X7_withoutTaper_4, Nat.le_refl, hP, upTo_n, bd_s, bd2_s, bdx_l, bdx_r, bdx2_l, bdx2_r, pu_s, gb0, gb1, gb_b, li0, li1, li2, li3, li4, li5, li6, li7, li8, li9, li10, li11, li12, li13, li14, li15, li16, li17, li18, li19, li20, li21, li22, li23, li24, li25, li26, li27, li28, li29, li30, li31, li32, li39, li40, li41, li43, li47, li48, li57, li59, li60, li62, li63, li64, li81, li97, li99, li100, li122, li128, li152, li188, li189, li190, li191, li192, li255, li299, li380, li400, li488, li888, li999, li1000, li5368, li9999, neg1, b2i_z, b2i_o, b2i_e, b2i_t, b2i_f, oI_s, nI_on, on_nI, on_on, le_on, on_lt, on_le, lt_on, nI_leI, nI_ltI, nI_eq, nI_add, nI_mul, nI_subN, nI_subon, nI_addon, sh1, xorN, ite_true, ite_false, if_true, if_false, not_true_eq_false, not_false_eq_true, reduceCtorEq, G_oil hB W R, G_own hB W R, G_dark hB W R, G_way hB W R, G_pl hB W R, G_tp hB W R, G_hd hB W R, G_lt hB W R, R.n, R.k, R.hour, R.night, R.fog, R.mist, R.texts, R.seed, R.burn, e_isBurning W R, e_hasBit, e_bit, hbE, e_likesFor hB W R, e_hasWay hB W R, e_far hB W R, far_on, own_on W, hd_on W, own_is W, hd_is W]
  · refine ⟨_, ?_, rfl⟩
    subst hP
    have h1 := W.tp i hi
    rw [upTo_s (by omega) hi]
    simp -implicitDefEqProofs (disch := omega) only [X7_withoutTaper_4, show ¬ v.k ≤ i by omega, View.spentB, decide_eq_true_eq, bd_s, bd2_s, bdx_l, bdx_r, bdx2_l, bdx2_r, pu_s, gb0, gb1, gb_b, li0, li1, li2, li3, li4, li5, li6, li7, li8, li9, li10, li11, li12, li13, li14, li15, li16, li17, li18, li19, li20, li21, li22, li23, li24, li25, li26, li27, li28, li29, li30, li31, li32, li39, li40, li41, li43, li47, li48, li57, li59, li60, li62, li63, li64, li81, li97, li99, li100, li122, li128, li152, li188, li189, li190, li191, li192, li255, li299, li380, li400, li488, li888, li999, li1000, li5368, li9999, neg1, b2i_z, b2i_o, b2i_e, b2i_t, b2i_f, oI_s, nI_on, on_nI, on_on, le_on, on_lt, on_le, lt_on, nI_leI, nI_ltI, nI_eq, nI_add, nI_mul, nI_subN, nI_subon, nI_addon, sh1, xorN, ite_true, ite_false, if_true, if_false, not_true_eq_false, not_false_eq_true, reduceCtorEq, G_oil hB W R, G_own hB W R, G_dark hB W R, G_way hB W R, G_pl hB W R, G_tp hB W R, G_hd hB W R, G_lt hB W R, R.n, R.k, R.hour, R.night, R.fog, R.mist, R.texts, R.seed, R.burn, e_isBurning W R, e_hasBit, e_bit, hbE, e_likesFor hB W R, e_hasWay hB W R, e_far hB W R, far_on, own_on W, hd_on W, own_is W, hd_is W]
    split <;> rfl
theorem m_spent (W : WF v) (M : SM (σ 400) v) : X12_spent_9 FU (nI 0) (nI 0) σ = some (mkB v.spentB v.k, σ) := by
  have h9 := W.k6
  refine loop_P (L := fun f a i => X12_spent_9 f a i σ) (P := fun i a => a = upTo v.spentB v.k i) (Q := fun r => r = some (mkB v.spentB v.k, σ)) (n := v.k) (fun f a hP => ?_) (fun f a i hi hP => Or.inr ?_) (Nat.zero_le _) (FUb (by omega)) (upTo_0 (by omega)).symm
  · simp -implicitDefEqProofs (disch := omega) only [X12_spent_9, Nat.le_refl, hP, upTo_n, bd_s, bd2_s, bdx_l, bdx_r, bdx2_l, bdx2_r, pu_s, gb0, gb1, gb_b, li0, li1, li2, li3, li4, li5, li6, li7, li8, li9, li10, li11, li12, li13, li14, li15, li16, li17, li18, li19, li20, li21, li22, li23, li24, li25, li26, li27, li28, li29, li30, li31, li32, li39, li40, li41, li43, li47, li48, li57, li59, li60, li62, li63, li64, li81, li97, li99, li100, li122, li128, li152, li188, li189, li190, li191, li192, li255, li299, li380, li400, li488, li888, li999, li1000, li5368, li9999, neg1, b2i_z, b2i_o, b2i_e, b2i_t, b2i_f, oI_s, nI_on, on_nI, on_on, le_on, on_lt, on_le, lt_on, nI_leI, nI_ltI, nI_eq, nI_add, nI_mul, nI_subN, nI_subon, nI_addon, sh1, xorN, ite_true, ite_false, if_true, if_false, not_true_eq_false, not_false_eq_true, reduceCtorEq, o_oil W M, o_burn W M, o_own W M, o_dark W M, o_pl W M, o_tp W M, o_hd W M, o_lt W M, a_n M, a_k M, a_hour M, a_night M, a_fog M, a_mist M, a_logs M, a_seed M, a_texts M, e_isOf, hbE, m_isWay W M, m_far W M, m_nextTo W M, m_liking W M, m_likesOwner W M, m_lesser, m_greater, m_isIn, far_on, own_on W, hd_on W, own_is W, hd_is W]
  · refine ⟨_, ?_, rfl⟩
    subst hP
    have h1 := W.tp i hi
    rw [upTo_s (by omega) hi]
    simp -implicitDefEqProofs (disch := omega) only [X12_spent_9, X12_spent_36, show ¬ v.k ≤ i by omega, View.spentB, decide_eq_true_eq, or_0, bd_s, bd2_s, bdx_l, bdx_r, bdx2_l, bdx2_r, pu_s, gb0, gb1, gb_b, li0, li1, li2, li3, li4, li5, li6, li7, li8, li9, li10, li11, li12, li13, li14, li15, li16, li17, li18, li19, li20, li21, li22, li23, li24, li25, li26, li27, li28, li29, li30, li31, li32, li39, li40, li41, li43, li47, li48, li57, li59, li60, li62, li63, li64, li81, li97, li99, li100, li122, li128, li152, li188, li189, li190, li191, li192, li255, li299, li380, li400, li488, li888, li999, li1000, li5368, li9999, neg1, b2i_z, b2i_o, b2i_e, b2i_t, b2i_f, oI_s, nI_on, on_nI, on_on, le_on, on_lt, on_le, lt_on, nI_leI, nI_ltI, nI_eq, nI_add, nI_mul, nI_subN, nI_subon, nI_addon, sh1, xorN, ite_true, ite_false, if_true, if_false, not_true_eq_false, not_false_eq_true, reduceCtorEq, o_oil W M, o_burn W M, o_own W M, o_dark W M, o_pl W M, o_tp W M, o_hd W M, o_lt W M, a_n M, a_k M, a_hour M, a_night M, a_fog M, a_mist M, a_logs M, a_seed M, a_texts M, e_isOf, hbE, m_isWay W M, m_far W M, m_nextTo W M, m_liking W M, m_likesOwner W M, m_lesser, m_greater, m_isIn, far_on, own_on W, hd_on W, own_is W, hd_is W]
    split <;> rfl
theorem m_burning (W : WF v) (M : SM (σ 400) v) : X12_burning σ = some (mkB v.burn v.n) := by
  have h9 := W.n9
  unfold X12_burning
  simp only [li0]
  refine loop_P (L := fun f a i => X12_burning_4 σ f a i) (P := fun i a => a = upTo v.burn v.n i) (Q := fun r => r = some (mkB v.burn v.n)) (n := v.n) (fun f a hP => ?_) (fun f a i hi hP => Or.inr ?_) (Nat.zero_le _) (FUb (by omega)) (upTo_0 (by omega)).symm
  · simp -implicitDefEqProofs (disch := omega) only [X12_burning_4, Nat.le_refl, hP, upTo_n, bd_s, bd2_s, bdx_l, bdx_r, bdx2_l, bdx2_r, pu_s, gb0, gb1, gb_b, li0, li1, li2, li3, li4, li5, li6, li7, li8, li9, li10, li11, li12, li13, li14, li15, li16, li17, li18, li19, li20, li21, li22, li23, li24, li25, li26, li27, li28, li29, li30, li31, li32, li39, li40, li41, li43, li47, li48, li57, li59, li60, li62, li63, li64, li81, li97, li99, li100, li122, li128, li152, li188, li189, li190, li191, li192, li255, li299, li380, li400, li488, li888, li999, li1000, li5368, li9999, neg1, b2i_z, b2i_o, b2i_e, b2i_t, b2i_f, oI_s, nI_on, on_nI, on_on, le_on, on_lt, on_le, lt_on, nI_leI, nI_ltI, nI_eq, nI_add, nI_mul, nI_subN, nI_subon, nI_addon, sh1, xorN, ite_true, ite_false, if_true, if_false, not_true_eq_false, not_false_eq_true, reduceCtorEq, o_oil W M, o_burn W M, o_own W M, o_dark W M, o_pl W M, o_tp W M, o_hd W M, o_lt W M, a_n M, a_k M, a_hour M, a_night M, a_fog M, a_mist M, a_logs M, a_seed M, a_texts M, e_isOf, hbE, m_isWay W M, m_far W M, m_nextTo W M, m_liking W M, m_likesOwner W M, m_lesser, m_greater, m_isIn, far_on, own_on W, hd_on W, own_is W, hd_is W]
  · refine ⟨_, ?_, rfl⟩
    subst hP
    rw [upTo_s (by omega) hi]
    have e1 : ∀ b : Bool, b2i b <<< (nI i &&& nI 31) = if b = true then bitv i else nI 0 := by
      intro b
      cases b with
      | true => rw [if_pos rfl]; exact sh1
      | false =>
        rw [if_neg (by decide)]
        have : ∀ i, i < 9 → b2i false <<< (nI i &&& nI 31) = nI 0 := by decide +kernel
        exact this i (by omega)
    simp -implicitDefEqProofs (disch := omega) only [X12_burning_4, show ¬ v.n ≤ i by omega, e1, bd_s, bd2_s, bdx_l, bdx_r, bdx2_l, bdx2_r, pu_s, gb0, gb1, gb_b, li0, li1, li2, li3, li4, li5, li6, li7, li8, li9, li10, li11, li12, li13, li14, li15, li16, li17, li18, li19, li20, li21, li22, li23, li24, li25, li26, li27, li28, li29, li30, li31, li32, li39, li40, li41, li43, li47, li48, li57, li59, li60, li62, li63, li64, li81, li97, li99, li100, li122, li128, li152, li188, li189, li190, li191, li192, li255, li299, li380, li400, li488, li888, li999, li1000, li5368, li9999, neg1, b2i_z, b2i_o, b2i_e, b2i_t, b2i_f, oI_s, nI_on, on_nI, on_on, le_on, on_lt, on_le, lt_on, nI_leI, nI_ltI, nI_eq, nI_add, nI_mul, nI_subN, nI_subon, nI_addon, sh1, xorN, ite_true, ite_false, if_true, if_false, not_true_eq_false, not_false_eq_true, reduceCtorEq, o_oil W M, o_burn W M, o_own W M, o_dark W M, o_pl W M, o_tp W M, o_hd W M, o_lt W M, a_n M, a_k M, a_hour M, a_night M, a_fog M, a_mist M, a_logs M, a_seed M, a_texts M, e_isOf, hbE, m_isWay W M, m_far W M, m_nextTo W M, m_liking W M, m_likesOwner W M, m_lesser, m_greater, m_isIn, far_on, own_on W, hd_on W, own_is W, hd_is W]
    split
    · rfl
    · rw [or_0]
end SUMS

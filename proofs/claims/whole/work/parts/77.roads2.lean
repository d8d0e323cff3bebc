/-! more roads that only read -/
section ROADS2
variable {σ : Mem} {v : View} {L : Lw} {j : Nat} {x1 x2 x3 x4 x5 : Int32}
theorem inv_th (hC : Core (1000 * j) σ v L) (hR : Rest (1000 * j) σ v.txt) {y : Int32} : Inv (j + 1) (st σ 399 0 y) := Inv.next hC hR (FrC.refl hR.2.2.2.2) (FrM.th hR.1) (st_n (by decide))
theorem rr0 (hC : Core (1000 * j) σ v L) (hR : Rest (1000 * j) σ v.txt) {A : Option Int32} {B : Option (Int32 × Mem)} {b : Int32} (hA : A = some b) (hB : B = some (b, st σ 399 0 (nI 0))) : ∃ σ3, (bd A fun r1 => bd2 B fun r2 τ2 => if r1 = r2 then some (true, τ2) else some (false, τ2)) = some (true, σ3) ∧ Inv (j + 1) σ3 := road0 hA hB (inv_th hC hR)
theorem sm_th (M : SM (σ 400) v) {y : Int32} : SM ((st σ 399 0 y) 400) v := by rw [st_n (by decide)]; exact M
theorem sm_out (M : SM (σ 400) v) {y : Int32} : SM ((st σ 411 0 y) 400) v := by rw [st_n (by decide)]; exact M
theorem r_4 (hC : Core (1000 * j) σ v L) (hR : Rest (1000 * j) σ v.txt) : ∃ σ3, lw_4 x1 x2 x3 x4 x5 σ = some (true, σ3) ∧ Inv (j + 1) σ3 := by
  refine rr0 hC hR (b := σ 1 6) rfl ?_
  unfold X12_fault
  rw [pu_s, bd_s, st_at' (by decide), hR.2.1.2]; rfl
theorem r_38 (hC : Core (1000 * j) σ v L) (hR : Rest (1000 * j) σ v.txt) : ∃ σ3, lw_38 x1 x2 x3 x4 x5 σ = some (true, σ3) ∧ Inv (j + 1) σ3 := by
  obtain ⟨W, R, M, -⟩ := id hC
  refine rr0 hC hR (b := mkB v.burn v.n) ?_ ?_
  · unfold X11_bright; rw [R.burn]
  · unfold X12_bright
    rw [pu_s, bd_s, m_burning W (sm_th M), bd_s]; rfl
theorem r_39 (hC : Core (1000 * j) σ v L) (hR : Rest (1000 * j) σ v.txt) : ∃ σ3, lw_39 x1 x2 x3 x4 x5 σ = some (true, σ3) ∧ Inv (j + 1) σ3 := by
  obtain ⟨W, R, M, -⟩ := id hC
  refine rr0 hC hR (b := oI (iterN v.brighter none v.n)) ?_ ?_
  · unfold X11_gloom; rw [e_darkest kd9 W R, bd_s]
  · unfold X12_gloom
    rw [pu_s, bd_s]
    exact m_gloom W (sm_th M)
theorem r_40 (hC : Core (1000 * j) σ v L) (hR : Rest (1000 * j) σ v.txt) : ∃ σ3, lw_40 x1 x2 x3 x4 x5 σ = some (true, σ3) ∧ Inv (j + 1) σ3 := by
  obtain ⟨W, R, M, -⟩ := id hC
  refine rr0 hC hR (b := oI (iterN v.busier none v.k)) ?_ ?_
  · unfold X11_lamplighter; rw [e_busiest kd9 W R, bd_s]
  · unfold X12_lamplighter
    rw [pu_s, bd_s]
    exact m_lamplighter W (sm_th M)
theorem r_41 (hC : Core (1000 * j) σ v L) (hR : Rest (1000 * j) σ v.txt) : ∃ σ3, lw_41 x1 x2 x3 x4 x5 σ = some (true, σ3) ∧ Inv (j + 1) σ3 := by
  obtain ⟨W, R, M, -⟩ := id hC
  refine rr0 hC hR (b := mkB v.spentB v.k) ?_ ?_
  · unfold X11_spent; rw [e_withoutTaper kd9 W R, bd_s]
  · unfold X12_spent
    rw [pu_s, bd_s]
    exact m_spent W (sm_th M)
theorem r_42 (hC : Core (1000 * j) σ v L) (hR : Rest (1000 * j) σ v.txt) : ∃ σ3, lw_42 x1 x2 x3 x4 x5 σ = some (true, σ3) ∧ Inv (j + 1) σ3 := by
  obtain ⟨W, R, M, -⟩ := id hC
  refine rr0 hC hR (b := oI (iterN v.fuller none v.n)) ?_ ?_
  · unfold X11_crowd; rw [e_fullest kd9 W R, bd_s]
  · unfold X12_crowd
    rw [pu_s, bd_s]
    exact m_crowd W (sm_th M)
theorem r_43 (hC : Core (1000 * j) σ v L) (hR : Rest (1000 * j) σ v.txt) : ∃ σ3, lw_43 x1 x2 x3 x4 x5 σ = some (true, σ3) ∧ Inv (j + 1) σ3 := by
  obtain ⟨W, R, M, -⟩ := id hC
  refine rr0 hC hR (b := v.alikes) ?_ ?_
  · unfold X11_alike; rw [e_likePairs kd9 W R, bd_s]
  · unfold X12_alike
    rw [pu_s, bd_s]
    exact m_alike W (sm_th M)
theorem r_10 (hC : Core (1000 * j) σ v L) (hR : Rest (1000 * j) σ v.txt) : ∃ σ3, lw_10 x1 x2 x3 x4 x5 σ = some (true, σ3) ∧ Inv (j + 1) σ3 := by
  obtain ⟨W, R, M, K, KT, Kl⟩ := id hC
  have hB := kd9
  have h9 := W.n9
  by_cases c1 : isP v.n x1 = true
  · by_cases c2 : isP v.n x2 = true
    · obtain ⟨w, w1, rfl⟩ := isP_t (by omega) c1
      obtain ⟨o, o1, rfl⟩ := isP_t (by omega) c2
      by_cases c3 : w = o
      · subst c3
        refine rbT hC hR (k := nI 2) (r := false) n2 ?_ ?_
        · simp -implicitDefEqProofs (disch := omega) only [L_isOpen, X11_isOpen, X11_needTwoPanes, e_needPane R, c1, hx_2b, bd_s, bd2_s, bdx_l, bdx_r, bdx2_l, bdx2_r, pu_s, gb0, gb1, gb_b, li0, li1, li2, li3, li4, li5, li6, li7, li8, li9, li10, li11, li12, li13, li14, li15, li16, li17, li18, li19, li20, li21, li22, li23, li24, li25, li26, li27, li28, li29, li30, li31, li32, li39, li40, li41, li43, li47, li48, li57, li59, li60, li62, li63, li64, li81, li97, li99, li100, li122, li128, li152, li188, li189, li190, li191, li192, li255, li299, li380, li400, li488, li888, li999, li1000, li5368, li9999, neg1, b2i_z, b2i_o, b2i_e, b2i_t, b2i_f, oI_s, nI_on, on_nI, on_on, le_on, on_lt, on_le, lt_on, nI_leI, nI_ltI, nI_eq, nI_add, nI_mul, nI_subN, nI_subon, nI_addon, sh1, xorN, ite_true, ite_false, if_true, if_false, not_true_eq_false, not_false_eq_true, reduceCtorEq, G_oil hB W R, G_own hB W R, G_dark hB W R, G_way hB W R, G_pl hB W R, G_tp hB W R, G_hd hB W R, G_lt hB W R, R.n, R.k, R.hour, R.night, R.fog, R.mist, R.texts, R.seed, R.burn, e_isBurning W R, e_hasBit, e_bit, hbE, e_likesFor hB W R, e_hasWay hB W R, e_far hB W R, far_on, own_on W, hd_on W, own_is W, hd_is W]
        · simp -implicitDefEqProofs (disch := omega) only [X12_isOpen, X12_arePanes, m_isPane W M, c1, st_at, Nat.reduceLeDiff, Nat.reduceEqDiff, bd_s, bd2_s, bdx_l, bdx_r, bdx2_l, bdx2_r, pu_s, gb0, gb1, gb_b, li0, li1, li2, li3, li4, li5, li6, li7, li8, li9, li10, li11, li12, li13, li14, li15, li16, li17, li18, li19, li20, li21, li22, li23, li24, li25, li26, li27, li28, li29, li30, li31, li32, li39, li40, li41, li43, li47, li48, li57, li59, li60, li62, li63, li64, li81, li97, li99, li100, li122, li128, li152, li188, li189, li190, li191, li192, li255, li299, li380, li400, li488, li888, li999, li1000, li5368, li9999, neg1, b2i_z, b2i_o, b2i_e, b2i_t, b2i_f, oI_s, nI_on, on_nI, on_on, le_on, on_lt, on_le, lt_on, nI_leI, nI_ltI, nI_eq, nI_add, nI_mul, nI_subN, nI_subon, nI_addon, sh1, xorN, ite_true, ite_false, if_true, if_false, not_true_eq_false, not_false_eq_true, reduceCtorEq, o_oil W M, o_burn W M, o_own W M, o_dark W M, o_pl W M, o_tp W M, o_hd W M, o_lt W M, a_n M, a_k M, a_hour M, a_night M, a_fog M, a_mist M, a_logs M, a_seed M, a_texts M, e_isOf, hbE, m_isWay W M, m_far W M, m_nextTo W M, m_liking W M, m_likesOwner W M, m_lesser, m_greater, m_isIn, far_on, own_on W, hd_on W, own_is W, hd_is W]
      · have M3 : SM ((st σ 411 0 (b2i (v.way w o))) 400) v := sm_out M
        have M2 : SM ((st (st σ 411 0 (b2i (v.way w o))) 399 0 (nI 0)) 400) v := sm_th M3
        refine rb0 hC hR (r := v.way w o) ?_ ?_
        · simp -implicitDefEqProofs (disch := omega) only [L_isOpen, X11_isOpen, X11_needTwoPanes, e_needPane R, c1, c2, c3, bd_s, bd2_s, bdx_l, bdx_r, bdx2_l, bdx2_r, pu_s, gb0, gb1, gb_b, li0, li1, li2, li3, li4, li5, li6, li7, li8, li9, li10, li11, li12, li13, li14, li15, li16, li17, li18, li19, li20, li21, li22, li23, li24, li25, li26, li27, li28, li29, li30, li31, li32, li39, li40, li41, li43, li47, li48, li57, li59, li60, li62, li63, li64, li81, li97, li99, li100, li122, li128, li152, li188, li189, li190, li191, li192, li255, li299, li380, li400, li488, li888, li999, li1000, li5368, li9999, neg1, b2i_z, b2i_o, b2i_e, b2i_t, b2i_f, oI_s, nI_on, on_nI, on_on, le_on, on_lt, on_le, lt_on, nI_leI, nI_ltI, nI_eq, nI_add, nI_mul, nI_subN, nI_subon, nI_addon, sh1, xorN, ite_true, ite_false, if_true, if_false, not_true_eq_false, not_false_eq_true, reduceCtorEq, G_oil hB W R, G_own hB W R, G_dark hB W R, G_way hB W R, G_pl hB W R, G_tp hB W R, G_hd hB W R, G_lt hB W R, R.n, R.k, R.hour, R.night, R.fog, R.mist, R.texts, R.seed, R.burn, e_isBurning W R, e_hasBit, e_bit, hbE, e_likesFor hB W R, e_hasWay hB W R, e_far hB W R, far_on, own_on W, hd_on W, own_is W, hd_is W]
          cases v.way w o <;> rfl
        · simp -implicitDefEqProofs (disch := omega) only [X12_isOpen, X12_arePanes, m_isPane W M3, c1, c2, c3, st_at, Nat.reduceLeDiff, Nat.le_refl, m_isWay W M2, bd_s, bd2_s, bdx_l, bdx_r, bdx2_l, bdx2_r, pu_s, gb0, gb1, gb_b, li0, li1, li2, li3, li4, li5, li6, li7, li8, li9, li10, li11, li12, li13, li14, li15, li16, li17, li18, li19, li20, li21, li22, li23, li24, li25, li26, li27, li28, li29, li30, li31, li32, li39, li40, li41, li43, li47, li48, li57, li59, li60, li62, li63, li64, li81, li97, li99, li100, li122, li128, li152, li188, li189, li190, li191, li192, li255, li299, li380, li400, li488, li888, li999, li1000, li5368, li9999, neg1, b2i_z, b2i_o, b2i_e, b2i_t, b2i_f, oI_s, nI_on, on_nI, on_on, le_on, on_lt, on_le, lt_on, nI_leI, nI_ltI, nI_eq, nI_add, nI_mul, nI_subN, nI_subon, nI_addon, sh1, xorN, ite_true, ite_false, if_true, if_false, not_true_eq_false, not_false_eq_true, reduceCtorEq, o_oil W M, o_burn W M, o_own W M, o_dark W M, o_pl W M, o_tp W M, o_hd W M, o_lt W M, a_n M, a_k M, a_hour M, a_night M, a_fog M, a_mist M, a_logs M, a_seed M, a_texts M, e_isOf, hbE, m_isWay W M, m_far W M, m_nextTo W M, m_liking W M, m_likesOwner W M, m_lesser, m_greater, m_isIn, far_on, own_on W, hd_on W, own_is W, hd_is W]
          cases v.way w o <;> rfl
    · rw [Bool.not_eq_true] at c2
      refine rbT hC hR (k := nI 1) (r := false) n0 ?_ ?_
      · simp -implicitDefEqProofs (disch := omega) only [L_isOpen, X11_isOpen, X11_needTwoPanes, e_needPane R, c1, c2, hx_2a, Bool.false_eq_true, bd_s, bd2_s, bdx_l, bdx_r, bdx2_l, bdx2_r, pu_s, gb0, gb1, gb_b, li0, li1, li2, li3, li4, li5, li6, li7, li8, li9, li10, li11, li12, li13, li14, li15, li16, li17, li18, li19, li20, li21, li22, li23, li24, li25, li26, li27, li28, li29, li30, li31, li32, li39, li40, li41, li43, li47, li48, li57, li59, li60, li62, li63, li64, li81, li97, li99, li100, li122, li128, li152, li188, li189, li190, li191, li192, li255, li299, li380, li400, li488, li888, li999, li1000, li5368, li9999, neg1, b2i_z, b2i_o, b2i_e, b2i_t, b2i_f, oI_s, nI_on, on_nI, on_on, le_on, on_lt, on_le, lt_on, nI_leI, nI_ltI, nI_eq, nI_add, nI_mul, nI_subN, nI_subon, nI_addon, sh1, xorN, ite_true, ite_false, if_true, if_false, not_true_eq_false, not_false_eq_true, reduceCtorEq, G_oil hB W R, G_own hB W R, G_dark hB W R, G_way hB W R, G_pl hB W R, G_tp hB W R, G_hd hB W R, G_lt hB W R, R.n, R.k, R.hour, R.night, R.fog, R.mist, R.texts, R.seed, R.burn, e_isBurning W R, e_hasBit, e_bit, hbE, e_likesFor hB W R, e_hasWay hB W R, e_far hB W R, far_on, own_on W, hd_on W, own_is W, hd_is W]
      · simp -implicitDefEqProofs (disch := omega) only [X12_isOpen, X12_arePanes, m_isPane W M, c1, c2, st_at, Nat.reduceLeDiff, Nat.reduceEqDiff, bd_s, bd2_s, bdx_l, bdx_r, bdx2_l, bdx2_r, pu_s, gb0, gb1, gb_b, li0, li1, li2, li3, li4, li5, li6, li7, li8, li9, li10, li11, li12, li13, li14, li15, li16, li17, li18, li19, li20, li21, li22, li23, li24, li25, li26, li27, li28, li29, li30, li31, li32, li39, li40, li41, li43, li47, li48, li57, li59, li60, li62, li63, li64, li81, li97, li99, li100, li122, li128, li152, li188, li189, li190, li191, li192, li255, li299, li380, li400, li488, li888, li999, li1000, li5368, li9999, neg1, b2i_z, b2i_o, b2i_e, b2i_t, b2i_f, oI_s, nI_on, on_nI, on_on, le_on, on_lt, on_le, lt_on, nI_leI, nI_ltI, nI_eq, nI_add, nI_mul, nI_subN, nI_subon, nI_addon, sh1, xorN, ite_true, ite_false, if_true, if_false, not_true_eq_false, not_false_eq_true, reduceCtorEq, o_oil W M, o_burn W M, o_own W M, o_dark W M, o_pl W M, o_tp W M, o_hd W M, o_lt W M, a_n M, a_k M, a_hour M, a_night M, a_fog M, a_mist M, a_logs M, a_seed M, a_texts M, e_isOf, hbE, m_isWay W M, m_far W M, m_nextTo W M, m_liking W M, m_likesOwner W M, m_lesser, m_greater, m_isIn, far_on, own_on W, hd_on W, own_is W, hd_is W]
  · rw [Bool.not_eq_true] at c1
    refine rbT hC hR (k := nI 1) (r := false) n0 ?_ ?_
    · simp -implicitDefEqProofs (disch := omega) only [L_isOpen, X11_isOpen, X11_needTwoPanes, e_needPane R, c1, hx_2a, Bool.false_eq_true, bd_s, bd2_s, bdx_l, bdx_r, bdx2_l, bdx2_r, pu_s, gb0, gb1, gb_b, li0, li1, li2, li3, li4, li5, li6, li7, li8, li9, li10, li11, li12, li13, li14, li15, li16, li17, li18, li19, li20, li21, li22, li23, li24, li25, li26, li27, li28, li29, li30, li31, li32, li39, li40, li41, li43, li47, li48, li57, li59, li60, li62, li63, li64, li81, li97, li99, li100, li122, li128, li152, li188, li189, li190, li191, li192, li255, li299, li380, li400, li488, li888, li999, li1000, li5368, li9999, neg1, b2i_z, b2i_o, b2i_e, b2i_t, b2i_f, oI_s, nI_on, on_nI, on_on, le_on, on_lt, on_le, lt_on, nI_leI, nI_ltI, nI_eq, nI_add, nI_mul, nI_subN, nI_subon, nI_addon, sh1, xorN, ite_true, ite_false, if_true, if_false, not_true_eq_false, not_false_eq_true, reduceCtorEq, G_oil hB W R, G_own hB W R, G_dark hB W R, G_way hB W R, G_pl hB W R, G_tp hB W R, G_hd hB W R, G_lt hB W R, R.n, R.k, R.hour, R.night, R.fog, R.mist, R.texts, R.seed, R.burn, e_isBurning W R, e_hasBit, e_bit, hbE, e_likesFor hB W R, e_hasWay hB W R, e_far hB W R, far_on, own_on W, hd_on W, own_is W, hd_is W]
    · simp -implicitDefEqProofs (disch := omega) only [X12_isOpen, X12_arePanes, m_isPane W M, c1, st_at, Nat.reduceLeDiff, Nat.reduceEqDiff, bd_s, bd2_s, bdx_l, bdx_r, bdx2_l, bdx2_r, pu_s, gb0, gb1, gb_b, li0, li1, li2, li3, li4, li5, li6, li7, li8, li9, li10, li11, li12, li13, li14, li15, li16, li17, li18, li19, li20, li21, li22, li23, li24, li25, li26, li27, li28, li29, li30, li31, li32, li39, li40, li41, li43, li47, li48, li57, li59, li60, li62, li63, li64, li81, li97, li99, li100, li122, li128, li152, li188, li189, li190, li191, li192, li255, li299, li380, li400, li488, li888, li999, li1000, li5368, li9999, neg1, b2i_z, b2i_o, b2i_e, b2i_t, b2i_f, oI_s, nI_on, on_nI, on_on, le_on, on_lt, on_le, lt_on, nI_leI, nI_ltI, nI_eq, nI_add, nI_mul, nI_subN, nI_subon, nI_addon, sh1, xorN, ite_true, ite_false, if_true, if_false, not_true_eq_false, not_false_eq_true, reduceCtorEq, o_oil W M, o_burn W M, o_own W M, o_dark W M, o_pl W M, o_tp W M, o_hd W M, o_lt W M, a_n M, a_k M, a_hour M, a_night M, a_fog M, a_mist M, a_logs M, a_seed M, a_texts M, e_isOf, hbE, m_isWay W M, m_far W M, m_nextTo W M, m_liking W M, m_likesOwner W M, m_lesser, m_greater, m_isIn, far_on, own_on W, hd_on W, own_is W, hd_is W]
theorem r_19 (hC : Core (1000 * j) σ v L) (hR : Rest (1000 * j) σ v.txt) : ∃ σ3, lw_19 x1 x2 x3 x4 x5 σ = some (true, σ3) ∧ Inv (j + 1) σ3 := by
  obtain ⟨W, R, M, K, KT, Kl⟩ := id hC
  have hB := kd9
  have h9 := W.n9
  by_cases c1 : isP v.n x1 = true
  · by_cases c2 : isP v.n x2 = true
    · obtain ⟨w, w1, rfl⟩ := isP_t (by omega) c1
      obtain ⟨o, o1, rfl⟩ := isP_t (by omega) c2
      have M3 : SM ((st σ 411 0 (oI (v.far w o))) 400) v := sm_out M
      have M2 : SM ((st (st σ 411 0 (oI (v.far w o))) 399 0 (nI 0)) 400) v := sm_th M3
      refine rq0 hC hR (r := oI (v.far w o)) ?_ ?_
      · simp -implicitDefEqProofs (disch := omega) only [L_far, X11_far, e_needPane R, c1, c2, bd_s, bd2_s, bdx_l, bdx_r, bdx2_l, bdx2_r, pu_s, gb0, gb1, gb_b, li0, li1, li2, li3, li4, li5, li6, li7, li8, li9, li10, li11, li12, li13, li14, li15, li16, li17, li18, li19, li20, li21, li22, li23, li24, li25, li26, li27, li28, li29, li30, li31, li32, li39, li40, li41, li43, li47, li48, li57, li59, li60, li62, li63, li64, li81, li97, li99, li100, li122, li128, li152, li188, li189, li190, li191, li192, li255, li299, li380, li400, li488, li888, li999, li1000, li5368, li9999, neg1, b2i_z, b2i_o, b2i_e, b2i_t, b2i_f, oI_s, nI_on, on_nI, on_on, le_on, on_lt, on_le, lt_on, nI_leI, nI_ltI, nI_eq, nI_add, nI_mul, nI_subN, nI_subon, nI_addon, sh1, xorN, ite_true, ite_false, if_true, if_false, not_true_eq_false, not_false_eq_true, reduceCtorEq, G_oil hB W R, G_own hB W R, G_dark hB W R, G_way hB W R, G_pl hB W R, G_tp hB W R, G_hd hB W R, G_lt hB W R, R.n, R.k, R.hour, R.night, R.fog, R.mist, R.texts, R.seed, R.burn, e_isBurning W R, e_hasBit, e_bit, hbE, e_likesFor hB W R, e_hasWay hB W R, e_far hB W R, far_on, own_on W, hd_on W, own_is W, hd_is W]
      · simp -implicitDefEqProofs (disch := omega) only [X12_far, X12_far_17, X12_far_22, m_isPane W M3, c1, c2, st_at, Nat.reduceLeDiff, Nat.le_refl, m_far W M2, bd_s, bd2_s, bdx_l, bdx_r, bdx2_l, bdx2_r, pu_s, gb0, gb1, gb_b, li0, li1, li2, li3, li4, li5, li6, li7, li8, li9, li10, li11, li12, li13, li14, li15, li16, li17, li18, li19, li20, li21, li22, li23, li24, li25, li26, li27, li28, li29, li30, li31, li32, li39, li40, li41, li43, li47, li48, li57, li59, li60, li62, li63, li64, li81, li97, li99, li100, li122, li128, li152, li188, li189, li190, li191, li192, li255, li299, li380, li400, li488, li888, li999, li1000, li5368, li9999, neg1, b2i_z, b2i_o, b2i_e, b2i_t, b2i_f, oI_s, nI_on, on_nI, on_on, le_on, on_lt, on_le, lt_on, nI_leI, nI_ltI, nI_eq, nI_add, nI_mul, nI_subN, nI_subon, nI_addon, sh1, xorN, ite_true, ite_false, if_true, if_false, not_true_eq_false, not_false_eq_true, reduceCtorEq, o_oil W M, o_burn W M, o_own W M, o_dark W M, o_pl W M, o_tp W M, o_hd W M, o_lt W M, a_n M, a_k M, a_hour M, a_night M, a_fog M, a_mist M, a_logs M, a_seed M, a_texts M, e_isOf, hbE, m_isWay W M, m_far W M, m_nextTo W M, m_liking W M, m_likesOwner W M, m_lesser, m_greater, m_isIn, far_on, own_on W, hd_on W, own_is W, hd_is W]
    · rw [Bool.not_eq_true] at c2
      refine rqT hC hR (k := nI 1) (r := nI 0) n0 ?_ ?_
      · simp -implicitDefEqProofs (disch := omega) only [L_far, X11_far, e_needPane R, c1, c2, hx_1, Bool.false_eq_true, bd_s, bd2_s, bdx_l, bdx_r, bdx2_l, bdx2_r, pu_s, gb0, gb1, gb_b, li0, li1, li2, li3, li4, li5, li6, li7, li8, li9, li10, li11, li12, li13, li14, li15, li16, li17, li18, li19, li20, li21, li22, li23, li24, li25, li26, li27, li28, li29, li30, li31, li32, li39, li40, li41, li43, li47, li48, li57, li59, li60, li62, li63, li64, li81, li97, li99, li100, li122, li128, li152, li188, li189, li190, li191, li192, li255, li299, li380, li400, li488, li888, li999, li1000, li5368, li9999, neg1, b2i_z, b2i_o, b2i_e, b2i_t, b2i_f, oI_s, nI_on, on_nI, on_on, le_on, on_lt, on_le, lt_on, nI_leI, nI_ltI, nI_eq, nI_add, nI_mul, nI_subN, nI_subon, nI_addon, sh1, xorN, ite_true, ite_false, if_true, if_false, not_true_eq_false, not_false_eq_true, reduceCtorEq, G_oil hB W R, G_own hB W R, G_dark hB W R, G_way hB W R, G_pl hB W R, G_tp hB W R, G_hd hB W R, G_lt hB W R, R.n, R.k, R.hour, R.night, R.fog, R.mist, R.texts, R.seed, R.burn, e_isBurning W R, e_hasBit, e_bit, hbE, e_likesFor hB W R, e_hasWay hB W R, e_far hB W R, far_on, own_on W, hd_on W, own_is W, hd_is W]
      · simp -implicitDefEqProofs (disch := omega) only [X12_far, X12_far_17, X12_far_22, m_isPane W M, c1, c2, st_at, Nat.reduceLeDiff, bd_s, bd2_s, bdx_l, bdx_r, bdx2_l, bdx2_r, pu_s, gb0, gb1, gb_b, li0, li1, li2, li3, li4, li5, li6, li7, li8, li9, li10, li11, li12, li13, li14, li15, li16, li17, li18, li19, li20, li21, li22, li23, li24, li25, li26, li27, li28, li29, li30, li31, li32, li39, li40, li41, li43, li47, li48, li57, li59, li60, li62, li63, li64, li81, li97, li99, li100, li122, li128, li152, li188, li189, li190, li191, li192, li255, li299, li380, li400, li488, li888, li999, li1000, li5368, li9999, neg1, b2i_z, b2i_o, b2i_e, b2i_t, b2i_f, oI_s, nI_on, on_nI, on_on, le_on, on_lt, on_le, lt_on, nI_leI, nI_ltI, nI_eq, nI_add, nI_mul, nI_subN, nI_subon, nI_addon, sh1, xorN, ite_true, ite_false, if_true, if_false, not_true_eq_false, not_false_eq_true, reduceCtorEq, o_oil W M, o_burn W M, o_own W M, o_dark W M, o_pl W M, o_tp W M, o_hd W M, o_lt W M, a_n M, a_k M, a_hour M, a_night M, a_fog M, a_mist M, a_logs M, a_seed M, a_texts M, e_isOf, hbE, m_isWay W M, m_far W M, m_nextTo W M, m_liking W M, m_likesOwner W M, m_lesser, m_greater, m_isIn, far_on, own_on W, hd_on W, own_is W, hd_is W]
  · rw [Bool.not_eq_true] at c1
    refine rqT hC hR (k := nI 1) (r := nI 0) n0 ?_ ?_
    · simp -implicitDefEqProofs (disch := omega) only [L_far, X11_far, e_needPane R, c1, hx_1, Bool.false_eq_true, bd_s, bd2_s, bdx_l, bdx_r, bdx2_l, bdx2_r, pu_s, gb0, gb1, gb_b, li0, li1, li2, li3, li4, li5, li6, li7, li8, li9, li10, li11, li12, li13, li14, li15, li16, li17, li18, li19, li20, li21, li22, li23, li24, li25, li26, li27, li28, li29, li30, li31, li32, li39, li40, li41, li43, li47, li48, li57, li59, li60, li62, li63, li64, li81, li97, li99, li100, li122, li128, li152, li188, li189, li190, li191, li192, li255, li299, li380, li400, li488, li888, li999, li1000, li5368, li9999, neg1, b2i_z, b2i_o, b2i_e, b2i_t, b2i_f, oI_s, nI_on, on_nI, on_on, le_on, on_lt, on_le, lt_on, nI_leI, nI_ltI, nI_eq, nI_add, nI_mul, nI_subN, nI_subon, nI_addon, sh1, xorN, ite_true, ite_false, if_true, if_false, not_true_eq_false, not_false_eq_true, reduceCtorEq, G_oil hB W R, G_own hB W R, G_dark hB W R, G_way hB W R, G_pl hB W R, G_tp hB W R, G_hd hB W R, G_lt hB W R, R.n, R.k, R.hour, R.night, R.fog, R.mist, R.texts, R.seed, R.burn, e_isBurning W R, e_hasBit, e_bit, hbE, e_likesFor hB W R, e_hasWay hB W R, e_far hB W R, far_on, own_on W, hd_on W, own_is W, hd_is W]
    · simp -implicitDefEqProofs (disch := omega) only [X12_far, X12_far_17, X12_far_22, m_isPane W M, c1, st_at, Nat.reduceLeDiff, bd_s, bd2_s, bdx_l, bdx_r, bdx2_l, bdx2_r, pu_s, gb0, gb1, gb_b, li0, li1, li2, li3, li4, li5, li6, li7, li8, li9, li10, li11, li12, li13, li14, li15, li16, li17, li18, li19, li20, li21, li22, li23, li24, li25, li26, li27, li28, li29, li30, li31, li32, li39, li40, li41, li43, li47, li48, li57, li59, li60, li62, li63, li64, li81, li97, li99, li100, li122, li128, li152, li188, li189, li190, li191, li192, li255, li299, li380, li400, li488, li888, li999, li1000, li5368, li9999, neg1, b2i_z, b2i_o, b2i_e, b2i_t, b2i_f, oI_s, nI_on, on_nI, on_on, le_on, on_lt, on_le, lt_on, nI_leI, nI_ltI, nI_eq, nI_add, nI_mul, nI_subN, nI_subon, nI_addon, sh1, xorN, ite_true, ite_false, if_true, if_false, not_true_eq_false, not_false_eq_true, reduceCtorEq, o_oil W M, o_burn W M, o_own W M, o_dark W M, o_pl W M, o_tp W M, o_hd W M, o_lt W M, a_n M, a_k M, a_hour M, a_night M, a_fog M, a_mist M, a_logs M, a_seed M, a_texts M, e_isOf, hbE, m_isWay W M, m_far W M, m_nextTo W M, m_liking W M, m_likesOwner W M, m_lesser, m_greater, m_isIn, far_on, own_on W, hd_on W, own_is W, hd_is W]
/-- how many rows of a pane, and the latest night -/
def ledF (l : List Rw) (x : Int32) : Nat → Int32 × Int32 → Int32 × Int32
  | 0, s => s
  | m + 1, s => ledF l x m (match l[m]? with | some r => if r.tell 3 = x then (s.1 + 1, r.tell 0) else s | none => s)
theorem e_led (W : WF v) (R : SC σ 9 v (1000 * j)) (hj : 1000 * j < 2 ^ 30) : ∀ (m fuel : Nat) (s : Int32 × Int32), m ≤ v.log.length → m < fuel → X11_led_21 σ fuel x1 x2 s.1 s.2 (nI m - nI 1) = some (.inl (if x2 = 0 then (ledF v.log x1 m s).1 else (ledF v.log x1 m s).2)) := by
  have h60 := W.log
  intro m
  induction m with
  | zero =>
    intro fuel s hm hf
    obtain ⟨fuel, rfl⟩ : ∃ z, fuel = z + 1 := ⟨fuel - 1, by omega⟩
    rw [show nI 0 - nI 1 = oI none from rfl, X11_led_21, if_pos (show oI none < 0 by decide)]
    unfold ledF
    split <;> rfl
  | succ m ih =>
    intro fuel s hm hf
    obtain ⟨fuel, rfl⟩ : ∃ z, fuel = z + 1 := ⟨fuel - 1, by omega⟩
    have hl : v.log[m]? = some (v.log[m]'(by omega)) := List.getElem?_eq_getElem _
    have hnx : nI m + -1 = nI m - nI 1 := by rw [Int32.sub_eq_add_neg]; rfl
    rw [show nI (m + 1) - nI 1 = nI m from nI_pred m, X11_led_21, if_neg (nI_pos (by omega)), show (3 : Int32) = nI 3 from rfl, e_readRow kd9 W R hj hl (by omega), bd_s, ledF, hl, hnx]
    by_cases c : Rw.tell (v.log[m]'(by omega)) 3 = x1
    · rw [if_pos c, show (0 : Int32) = nI 0 from rfl, e_readRow kd9 W R hj hl (by omega), bd_s]
      simp only [c, if_true]
      exact ih fuel (_, _) (by omega) (by omega)
    · rw [if_neg c]
      simp only [c, if_false]
      exact ih fuel s (by omega) (by omega)
theorem m_led (W : WF v) (M : SM (σ 400) v) : ∀ (m fuel : Nat) (s : Int32 × Int32), m ≤ v.log.length → m < fuel → X12_led_42 fuel x1 x2 s.1 s.2 (nI m - nI 1) σ = some (if x2 = 0 then (ledF v.log x1 m s).1 else (ledF v.log x1 m s).2, σ) := by
  have h60 := W.log
  intro m
  induction m with
  | zero =>
    intro fuel s hm hf
    obtain ⟨fuel, rfl⟩ : ∃ z, fuel = z + 1 := ⟨fuel - 1, by omega⟩
    rw [show nI 0 - nI 1 = oI none from rfl, X12_led_42, if_pos (show oI none < 0 by decide)]
    unfold ledF
    split <;> rfl
  | succ m ih =>
    intro fuel s hm hf
    obtain ⟨fuel, rfl⟩ : ∃ z, fuel = z + 1 := ⟨fuel - 1, by omega⟩
    have hl : v.log[m]? = some (v.log[m]'(by omega)) := List.getElem?_eq_getElem _
    have hnx : nI m + -1 = nI m - nI 1 := by rw [Int32.sub_eq_add_neg]; rfl
    rw [show nI (m + 1) - nI 1 = nI m from nI_pred m, X12_led_42, if_neg (nI_pos (by omega)), show (3 : Int32) = nI 3 from rfl, m_logged W M hl (by omega), bd_s, ledF, hl, hnx]
    by_cases c : Rw.tell (v.log[m]'(by omega)) 3 = x1
    · rw [if_pos c, show (0 : Int32) = nI 0 from rfl, m_logged W M hl (by omega), bd_s]
      simp only [c, if_true]
      exact ih fuel (_, _) (by omega) (by omega)
    · rw [if_neg c]
      simp only [c, if_false]
      exact ih fuel s (by omega) (by omega)
theorem r_47 (hj : j < 512) (hC : Core (1000 * j) σ v L) (hR : Rest (1000 * j) σ v.txt) : ∀ y2 : Int32, ∃ σ3, (bd2 (L_led x1 y2 σ) fun r1 τ1 => bd2 (X12_led x1 y2 τ1) fun r2 τ2 => bd (X12_thrown τ2) fun r3 => if r3 = r1 then (if r1 = 0 then (if (lg_cmp ((τ2 411 0).toInt64) r2.toInt64) = 0 then some (true, τ2) else some (false, τ2)) else some (true, τ2)) else some (false, τ2)) = some (true, σ3) ∧ Inv (j + 1) σ3 := by
  intro y2
  obtain ⟨W, R, M, K, KT, Kl⟩ := id hC
  have hB := kd9
  have h9 := W.n9
  have h60 := W.log
  by_cases c1 : isP v.n x1 = true
  · obtain ⟨p, p1, rfl⟩ := isP_t (by omega) c1
    refine rq0 (Bf := fun τ => X12_led (nI p) y2 τ) hC hR (r := if y2 = 0 then (ledF v.log (nI p) v.log.length (nI 0, oI none)).1 else (ledF v.log (nI p) v.log.length (nI 0, oI none)).2) ?_ ?_
    · have := e_led (x1 := nI p) (x2 := y2) W R (by omega) v.log.length FU (nI 0, oI none) (Nat.le_refl _) (FUb (by omega))
      unfold L_led X11_led
      rw [e_needPane R, if_pos c1, bdx_l, e_rows R (by omega), bd_s, show (1 : Int32) = nI 1 from rfl, show (0 : Int32) = nI 0 from rfl]
      show bdx (X11_led_21 σ FU (nI p) y2 (nI 0, oI none).1 (nI 0, oI none).2 (nI v.log.length - nI 1)) _ _ = _
      rw [this]
      rfl
    · generalize hr : (if y2 = 0 then (ledF v.log (nI p) v.log.length (nI 0, oI none)).1 else (ledF v.log (nI p) v.log.length (nI 0, oI none)).2) = r
      have M3 : SM ((st σ 411 0 r) 400) v := sm_out M
      have M2 : SM ((st (st σ 411 0 r) 399 0 (nI 0)) 400) v := sm_th M3
      have := m_led (x1 := nI p) (x2 := y2) W M2 v.log.length FU (nI 0, oI none) (Nat.le_refl _) (FUb (by omega))
      unfold X12_led X12_led_14
      rw [m_isPane W M3, c1, bd_s, if_neg (show ¬ b2i true = 0 by decide), pu_s, bd_s, st_at, if_pos (by decide), show (9 : Int32) = nI 9 from rfl, show (0 : Int32) = nI 0 from rfl, a_logs M2, bd_s]
      rw [hr] at this
      exact this
  · rw [Bool.not_eq_true] at c1
    refine rqT (Bf := fun τ => X12_led x1 y2 τ) hC hR (k := nI 1) (r := nI 0) n0 ?_ ?_
    · simp -implicitDefEqProofs (disch := omega) only [L_led, X11_led, e_needPane R, c1, hx_1, Bool.false_eq_true, bd_s, bd2_s, bdx_l, bdx_r, bdx2_l, bdx2_r, pu_s, gb0, gb1, gb_b, li0, li1, li2, li3, li4, li5, li6, li7, li8, li9, li10, li11, li12, li13, li14, li15, li16, li17, li18, li19, li20, li21, li22, li23, li24, li25, li26, li27, li28, li29, li30, li31, li32, li39, li40, li41, li43, li47, li48, li57, li59, li60, li62, li63, li64, li81, li97, li99, li100, li122, li128, li152, li188, li189, li190, li191, li192, li255, li299, li380, li400, li488, li888, li999, li1000, li5368, li9999, neg1, b2i_z, b2i_o, b2i_e, b2i_t, b2i_f, oI_s, nI_on, on_nI, on_on, le_on, on_lt, on_le, lt_on, nI_leI, nI_ltI, nI_eq, nI_add, nI_mul, nI_subN, nI_subon, nI_addon, sh1, xorN, ite_true, ite_false, if_true, if_false, not_true_eq_false, not_false_eq_true, reduceCtorEq, G_oil hB W R, G_own hB W R, G_dark hB W R, G_way hB W R, G_pl hB W R, G_tp hB W R, G_hd hB W R, G_lt hB W R, R.n, R.k, R.hour, R.night, R.fog, R.mist, R.texts, R.seed, R.burn, e_isBurning W R, e_hasBit, e_bit, hbE, e_likesFor hB W R, e_hasWay hB W R, e_far hB W R, far_on, own_on W, hd_on W, own_is W, hd_is W]
    · simp -implicitDefEqProofs (disch := omega) only [X12_led, X12_led_14, m_isPane W M, c1, st_at, Nat.reduceLeDiff, bd_s, bd2_s, bdx_l, bdx_r, bdx2_l, bdx2_r, pu_s, gb0, gb1, gb_b, li0, li1, li2, li3, li4, li5, li6, li7, li8, li9, li10, li11, li12, li13, li14, li15, li16, li17, li18, li19, li20, li21, li22, li23, li24, li25, li26, li27, li28, li29, li30, li31, li32, li39, li40, li41, li43, li47, li48, li57, li59, li60, li62, li63, li64, li81, li97, li99, li100, li122, li128, li152, li188, li189, li190, li191, li192, li255, li299, li380, li400, li488, li888, li999, li1000, li5368, li9999, neg1, b2i_z, b2i_o, b2i_e, b2i_t, b2i_f, oI_s, nI_on, on_nI, on_on, le_on, on_lt, on_le, lt_on, nI_leI, nI_ltI, nI_eq, nI_add, nI_mul, nI_subN, nI_subon, nI_addon, sh1, xorN, ite_true, ite_false, if_true, if_false, not_true_eq_false, not_false_eq_true, reduceCtorEq, o_oil W M, o_burn W M, o_own W M, o_dark W M, o_pl W M, o_tp W M, o_hd W M, o_lt W M, a_n M, a_k M, a_hour M, a_night M, a_fog M, a_mist M, a_logs M, a_seed M, a_texts M, e_isOf, hbE, m_isWay W M, m_far W M, m_nextTo W M, m_liking W M, m_likesOwner W M, m_lesser, m_greater, m_isIn, far_on, own_on W, hd_on W, own_is W, hd_is W]
theorem r_53 (hj : j < 512) (hC : Core (1000 * j) σ v L) (hR : Rest (1000 * j) σ v.txt) : ∃ σ3, lw_53 x1 x2 x3 x4 x5 σ = some (true, σ3) ∧ Inv (j + 1) σ3 := by
  obtain ⟨W, R, M, K, KT, Kl⟩ := id hC
  obtain ⟨nx, KK, q1, q2, q3, q4, q5, q6⟩ := id hR.2.2.1
  have M2 : SM ((st σ 399 0 0) 400) v := sm_th M
  unfold lw_53 X11_count X12_count
  simp only [pu_s, bd_s]
  have inN : X12_isIn (st σ 399 0 0) x1 4 7 = some (b2i (isN (nI 4) (nI 7) x1)) := m_isN
  have ag5 : ∀ i, 4 ≤ i → i ≤ 7 → ag (st σ 399 0 0) 400 (((5 : Int32) + nI i) - (4 : Int32)) = some (σ 400 (i + 1)) := by
    intro i h1 h2
    rw [show (5 : Int32) = nI 5 from rfl, nI_add, show (4 : Int32) = nI 4 from rfl, nI_subN (by omega), show 5 + i - 4 = i + 1 by omega, m_at (by omega), st_n (by decide)]
  by_cases d0 : x1 = 0
  · subst d0
    exact road0 (b := nI v.n) (by rw [if_pos rfl, R.n]) (by rw [if_pos rfl, show (3 : Int32) = nI 3 from rfl, a_n M2, bd_s]) (inv_th hC hR)
  rw [if_neg d0, if_neg d0]
  by_cases d1 : x1 = 1
  · subst d1
    exact road0 (b := nI v.k) (by rw [if_pos rfl, R.k]) (by rw [if_pos rfl, show (4 : Int32) = nI 4 from rfl, a_k M2, bd_s]) (inv_th hC hR)
  rw [if_neg d1, if_neg d1]
  by_cases d2 : x1 = 2
  · subst d2
    exact road0 (b := nI v.texts) (by rw [if_pos rfl, R.texts]) (by rw [if_pos rfl, show ag (st σ 399 0 0) 400 0 = some (nI v.texts) from a_texts M2, bd_s]) (inv_th hC hR)
  rw [if_neg d2, if_neg d2]
  by_cases d3 : x1 = 3
  · subst d3
    exact road0 (b := v.txt 1) (by rw [if_pos rfl, Kl]) (by rw [if_pos rfl, show (1 : Int32) = nI 1 from rfl, m_at (by omega), bd_s, M2.txt 1 (by omega)]) (inv_th hC hR)
  rw [if_neg d3, if_neg d3, inN]
  simp only [bd_s]
  by_cases d4 : x1 = 4
  · subst d4
    exact road0 (b := nI v.hour) (by rw [if_pos rfl, R.hour]) (by rw [show isN (nI 4) (nI 7) 4 = true by decide, if_neg (by decide), show ag (st σ 399 0 0) 400 ((5 : Int32) + 4 - 4) = _ from ag5 4 (by omega) (by omega), bd_s, M.hour]) (inv_th hC hR)
  rw [if_neg d4]
  by_cases d5 : x1 = 5
  · subst d5
    exact road0 (b := nI v.night) (by rw [if_pos rfl, R.night]) (by rw [show isN (nI 4) (nI 7) 5 = true by decide, if_neg (by decide), show ag (st σ 399 0 0) 400 ((5 : Int32) + 5 - 4) = _ from ag5 5 (by omega) (by omega), bd_s, M.night]) (inv_th hC hR)
  rw [if_neg d5]
  by_cases d6 : x1 = 6
  · subst d6
    exact road0 (b := nI v.fog) (by rw [if_pos rfl, R.fog]) (by rw [show isN (nI 4) (nI 7) 6 = true by decide, if_neg (by decide), show ag (st σ 399 0 0) 400 ((5 : Int32) + 6 - 4) = _ from ag5 6 (by omega) (by omega), bd_s, M.fog]) (inv_th hC hR)
  rw [if_neg d6]
  by_cases d7 : x1 = 7
  · subst d7
    exact road0 (b := b2i v.mist) (by rw [if_pos rfl, R.mist]; cases v.mist <;> rfl) (by rw [show isN (nI 4) (nI 7) 7 = true by decide, if_neg (by decide), show ag (st σ 399 0 0) 400 ((5 : Int32) + 7 - 4) = _ from ag5 7 (by omega) (by omega), bd_s, M.mist]) (inv_th hC hR)
  have hn : isN (nI 4) (nI 7) x1 = false := by
    rw [← Bool.not_eq_true]
    intro z
    obtain ⟨n, n1, n2, rfl⟩ := isN_t (by omega) (by omega) z
    have : n = 4 ∨ n = 5 ∨ n = 6 ∨ n = 7 := by omega
    rcases this with rfl | rfl | rfl | rfl
    · exact d4 rfl
    · exact d5 rfl
    · exact d6 rfl
    · exact d7 rfl
  rw [if_neg d7, hn, if_pos (show b2i false = 0 from rfl)]
  by_cases d8 : x1 = 8
  · subst d8
    exact road0 (b := v.oilAll) (by rw [if_pos rfl, e_oilOfAll kd9 W R, bd_s]) (by rw [if_pos rfl, m_oilOfAll W M2, bd_s]) (inv_th hC hR)
  rw [if_neg d8, if_neg d8]
  by_cases d9 : x1 = 9
  · subst d9
    exact road0 (b := v.litAll) (by rw [if_pos rfl, e_litByAll kd9 W R, bd_s]) (by rw [if_pos rfl, m_litOfAll W M2, bd_s]) (inv_th hC hR)
  rw [if_neg d9, if_neg d9]
  by_cases d10 : x1 = 10
  · subst d10
    exact road0 (b := nI v.wayC) (by rw [if_pos rfl, e_openWays kd9 W R, bd_s]) (by rw [if_pos rfl, m_waysOf W M2, bd_s]) (inv_th hC hR)
  rw [if_neg d10, if_neg d10]
  by_cases d11 : x1 = 11
  · subst d11
    exact road0 (b := nI v.log.length) (by rw [if_pos rfl, e_rows R (by omega), bd_s]) (by rw [if_pos rfl, show (9 : Int32) = nI 9 from rfl, a_logs M2, bd_s]) (inv_th hC hR)
  rw [if_neg d11, if_neg d11]
  by_cases d12 : x1 = 12
  · subst d12
    exact road0 (b := nI KK) (by rw [if_pos rfl, q4]) (by rw [if_pos rfl, st_at' (by decide), q5]) (inv_th hC hR)
  rw [if_neg d12, if_neg d12]
  exact road0 (b := -1) rfl rfl (inv_th hC hR)
end ROADS2

/-! roads that ask the law, or look ahead -/
/-- after a call of the reference that keeps its row -/
def Ok (τ σ2 : Mem) : Prop := FrM τ σ2 ∧ σ2 400 = τ 400 ∧ σ2 399 0 = τ 399 0
theorem ML.ok {τ σ2 : Mem} (h : ML τ σ2) : Ok τ σ2 := ⟨h.1.frM, h.2, h.1.2.1 0 (by omega)⟩
theorem Ok.refl {τ : Mem} (h : BO τ) : Ok τ τ := ⟨FrM.refl h, rfl, rfl⟩
section ROADS3
variable {σ σ1 : Mem} {v : View} {L : Lw} {j : Nat} {x1 x2 x3 x4 x5 : Int32}
theorem rqM (hC : Core (1000 * j) σ v L) (hR : Rest (1000 * j) σ v.txt) {A : Option (Int32 × Mem)} {Bf : Mem → Option (Int32 × Mem)} {r : Int32} (fC : FrC σ σ1) (hA : A = some (nI 0, st σ1 411 0 r)) (hB : ∀ ρ, ρ = st σ1 411 0 r → SM (ρ 400) v → SM ((st ρ 399 0 (nI 0)) 400) v → BO (st ρ 399 0 (nI 0)) → ∃ σ2, Bf ρ = some (r, σ2) ∧ Ok (st ρ 399 0 (nI 0)) σ2) : ∃ σ3, (bd2 A fun r1 τ1 => bd2 (Bf τ1) fun r2 τ2 => bd (X12_thrown τ2) fun r3 => if r3 = r1 then (if r1 = 0 then (if (lg_cmp ((τ2 411 0).toInt64) r2.toInt64) = 0 then some (true, τ2) else some (false, τ2)) else some (true, τ2)) else some (false, τ2)) = some (true, σ3) ∧ Inv (j + 1) σ3 := by
  have h400 : (st σ1 411 0 r) 400 = σ 400 := by rw [st_n (by decide), fC.1 400 (by omega)]
  have M1 : SM ((st σ1 411 0 r) 400) v := by rw [h400]; exact hC.2.2.1
  have hb : BO (st σ1 411 0 r) := by unfold BO; rw [st_n (by decide), fC.1 399 (by omega)]; exact hR.1
  obtain ⟨σ2, q1, q2, q3, q4⟩ := hB _ rfl M1 (by rw [st_n (by decide)]; exact M1) (BO.th hb)
  refine roadI hA q1 (by rw [q4, st_at]) (fun _ => ?_) (Inv.next hC hR fC.out ((FrM.th hb).trans q2) (by rw [q3, st_n (by decide)]))
  rw [q2.1 411 (by omega), st_n (by decide), st_at]
theorem rbM (hC : Core (1000 * j) σ v L) (hR : Rest (1000 * j) σ v.txt) {A : Option (Int32 × Mem)} {Bf : Mem → Option (Int32 × Mem)} {r : Bool} (fC : FrC σ σ1) (hA : A = some (nI 0, st σ1 411 0 (b2i r))) (hB : ∀ ρ, ρ = st σ1 411 0 (b2i r) → SM (ρ 400) v → SM ((st ρ 399 0 (nI 0)) 400) v → BO (st ρ 399 0 (nI 0)) → ∃ σ2, Bf ρ = some (b2i r, σ2) ∧ Ok (st ρ 399 0 (nI 0)) σ2) : ∃ σ3, (bd2 A fun r1 τ1 => bd2 (Bf τ1) fun r2 τ2 => bd (X12_thrown τ2) fun r3 => if r3 = r1 then (if r1 = 0 then (if r2 = 0 then (if (lg_cmp ((τ2 411 0).toInt64) ((0 : Int64))) = 0 then some (true, τ2) else some (false, τ2)) else (if (lg_cmp ((τ2 411 0).toInt64) ((1 : Int64))) = 0 then some (true, τ2) else some (false, τ2))) else some (true, τ2)) else some (false, τ2)) = some (true, σ3) ∧ Inv (j + 1) σ3 := by
  have h400 : (st σ1 411 0 (b2i r)) 400 = σ 400 := by rw [st_n (by decide), fC.1 400 (by omega)]
  have M1 : SM ((st σ1 411 0 (b2i r)) 400) v := by rw [h400]; exact hC.2.2.1
  have hb : BO (st σ1 411 0 (b2i r)) := by unfold BO; rw [st_n (by decide), fC.1 399 (by omega)]; exact hR.1
  obtain ⟨σ2, q1, q2, q3, q4⟩ := hB _ rfl M1 (by rw [st_n (by decide)]; exact M1) (BO.th hb)
  refine roadB hA q1 (by rw [q4, st_at]) (fun _ => ?_) (Inv.next hC hR fC.out ((FrM.th hb).trans q2) (by rw [q3, st_n (by decide)]))
  rw [q2.1 411 (by omega), st_n (by decide), st_at]
theorem rrM (hC : Core (1000 * j) σ v L) (hR : Rest (1000 * j) σ v.txt) {A : Option (Int32 × Mem)} {Bf : Mem → Option (Int32 × Mem)} {r : Int32} (fC : FrC σ σ1) (hA : A = some (r, σ1)) (hB : SM ((st σ1 399 0 (nI 0)) 400) v → BO (st σ1 399 0 (nI 0)) → ∃ σ2, Bf σ1 = some (r, σ2) ∧ Ok (st σ1 399 0 (nI 0)) σ2) : ∃ σ3, (bd2 A fun r1 τ1 => bd2 (Bf τ1) fun r2 τ2 => if r1 = r2 then some (true, τ2) else some (false, τ2)) = some (true, σ3) ∧ Inv (j + 1) σ3 := by
  have h400 : σ1 400 = σ 400 := fC.1 400 (by omega)
  have hb : BO σ1 := by unfold BO; rw [fC.1 399 (by omega)]; exact hR.1
  obtain ⟨σ2, q1, q2, q3, q4⟩ := hB (by rw [st_n (by decide), h400]; exact hC.2.2.1) (BO.th hb)
  exact road1 hA q1 (Inv.next hC hR fC ((FrM.th hb).trans q2) (by rw [q3, st_n (by decide)]))
theorem r_22 (hC : Core (1000 * j) σ v L) (hR : Rest (1000 * j) σ v.txt) : ∃ σ3, lw_22 x1 x2 x3 x4 x5 σ = some (true, σ3) ∧ Inv (j + 1) σ3 := by
  obtain ⟨W, R, M, K, KT, Kl⟩ := id hC
  obtain ⟨τ, t1, t2⟩ := e_never W R K
  refine rrM (σ1 := τ) hC hR (r := mkB (v.never L) v.n) (t2.frc hR.2.2.2.2) ?_ (fun M2 hb => ?_)
  · unfold X11_never; rw [t1, bd2_s]
  · obtain ⟨ρ, r1, r2⟩ := m_never W M2 KT hb
    unfold X12_never
    rw [pu_s, bd_s]
    exact ⟨ρ, r1, r2.ok⟩
theorem r_8 (hC : Core (1000 * j) σ v L) (hR : Rest (1000 * j) σ v.txt) : ∃ σ3, lw_8 x1 x2 x3 x4 x5 σ = some (true, σ3) ∧ Inv (j + 1) σ3 := by
  obtain ⟨W, R, M, K, KT, Kl⟩ := id hC
  have hB := kd9
  have h9 := W.n9
  have h6 := W.k6
  by_cases c1 : isP v.k x1 = true
  · by_cases c2 : isP v.n x2 = true
    · obtain ⟨w, w1, rfl⟩ := isP_t (by omega) c1
      obtain ⟨p, p1, rfl⟩ := isP_t (by omega) c2
      obtain ⟨τ, t1, t2, t3⟩ := e_look (C := 72) hB rfl (Or.inl (by decide)) W R (w := w) (p := p) (likes := v.lo w p) (taper := v.tp w) p1
      have K1 : LC τ 72 L := K.move fun c h1 h2 => t3 c (by omega)
      obtain ⟨ρ, s1, s2⟩ := e_willNow (C := 72) rfl K1 t2
      have f : FL σ ρ := fun c h1 h2 => by rw [s2 c h2, t3 c h1]
      refine rqM (σ1 := ρ) hC hR (r := v.will L w p (v.lo w p) (v.tp w)) (f.frc hR.2.2.2.2) ?_ (fun ρ2 hρ M1 M2 hb => ?_)
      · unfold L_will X11_will
        rw [e_needWalker R, if_pos c1, bdx_l, e_needPane R, if_pos c2, bdx_l, e_likesFor hB W R w1 p1, bd_s, show X6_get σ 20 (nI w) = _ from g_tp hB W R w1, bd_s, t1, bd_s, s1]
        rfl
      · unfold X12_will X12_will_22
        rw [m_isWalker W M1, c1, bd_s, if_neg (show ¬ b2i true = 0 by decide), m_isPane W M1, c2, bd_s, if_neg (show ¬ b2i true = 0 by decide), pu_s, bd_s, st_at, if_pos (by decide)]
        obtain ⟨τ2, u1, u2, u3, u4, u5⟩ := m_asks W M2 KT (likes := v.lo w p) w1 p1
        rw [show (0 : Int32) = nI 0 from rfl, m_likesOwner W M2 w1 p1, bd_s, u1, bd_s, u2]
        exact ⟨τ2, rfl, (ML.ok ⟨u4, u5⟩)⟩
    · rw [Bool.not_eq_true] at c2
      refine rqT hC hR (k := nI 1) (r := nI 0) n0 ?_ ?_
      · simp -implicitDefEqProofs (disch := omega) only [L_will, X11_will, e_needWalker R, e_needPane R, c1, c2, hx_1, Bool.false_eq_true, bd_s, bd2_s, bdx_l, bdx_r, bdx2_l, bdx2_r, pu_s, gb0, gb1, gb_b, li0, li1, li2, li3, li4, li5, li6, li7, li8, li9, li10, li11, li12, li13, li14, li15, li16, li17, li18, li19, li20, li21, li22, li23, li24, li25, li26, li27, li28, li29, li30, li31, li32, li39, li40, li41, li43, li47, li48, li57, li59, li60, li62, li63, li64, li81, li97, li99, li100, li122, li128, li152, li188, li189, li190, li191, li192, li255, li299, li380, li400, li488, li888, li999, li1000, li5368, li9999, neg1, b2i_z, b2i_o, b2i_e, b2i_t, b2i_f, oI_s, nI_on, on_nI, on_on, le_on, on_lt, on_le, lt_on, nI_leI, nI_ltI, nI_eq, nI_add, nI_mul, nI_subN, nI_subon, nI_addon, sh1, xorN, ite_true, ite_false, if_true, if_false, not_true_eq_false, not_false_eq_true, reduceCtorEq, G_oil hB W R, G_own hB W R, G_dark hB W R, G_way hB W R, G_pl hB W R, G_tp hB W R, G_hd hB W R, G_lt hB W R, R.n, R.k, R.hour, R.night, R.fog, R.mist, R.texts, R.seed, R.burn, e_isBurning W R, e_hasBit, e_bit, hbE, e_likesFor hB W R, e_hasWay hB W R, e_far hB W R, far_on, own_on W, hd_on W, own_is W, hd_is W]
      · simp -implicitDefEqProofs (disch := omega) only [X12_will, X12_will_17, X12_will_22, m_isWalker W M, m_isPane W M, c1, c2, st_at, Nat.reduceLeDiff, bd_s, bd2_s, bdx_l, bdx_r, bdx2_l, bdx2_r, pu_s, gb0, gb1, gb_b, li0, li1, li2, li3, li4, li5, li6, li7, li8, li9, li10, li11, li12, li13, li14, li15, li16, li17, li18, li19, li20, li21, li22, li23, li24, li25, li26, li27, li28, li29, li30, li31, li32, li39, li40, li41, li43, li47, li48, li57, li59, li60, li62, li63, li64, li81, li97, li99, li100, li122, li128, li152, li188, li189, li190, li191, li192, li255, li299, li380, li400, li488, li888, li999, li1000, li5368, li9999, neg1, b2i_z, b2i_o, b2i_e, b2i_t, b2i_f, oI_s, nI_on, on_nI, on_on, le_on, on_lt, on_le, lt_on, nI_leI, nI_ltI, nI_eq, nI_add, nI_mul, nI_subN, nI_subon, nI_addon, sh1, xorN, ite_true, ite_false, if_true, if_false, not_true_eq_false, not_false_eq_true, reduceCtorEq, o_oil W M, o_burn W M, o_own W M, o_dark W M, o_pl W M, o_tp W M, o_hd W M, o_lt W M, a_n M, a_k M, a_hour M, a_night M, a_fog M, a_mist M, a_logs M, a_seed M, a_texts M, e_isOf, hbE, m_isWay W M, m_far W M, m_nextTo W M, m_liking W M, m_likesOwner W M, m_lesser, m_greater, m_isIn, far_on, own_on W, hd_on W, own_is W, hd_is W]
  · rw [Bool.not_eq_true] at c1
    refine rqT hC hR (k := nI 1) (r := nI 0) n0 ?_ ?_
    · simp -implicitDefEqProofs (disch := omega) only [L_will, X11_will, e_needWalker R, c1, hx_1, Bool.false_eq_true, bd_s, bd2_s, bdx_l, bdx_r, bdx2_l, bdx2_r, pu_s, gb0, gb1, gb_b, li0, li1, li2, li3, li4, li5, li6, li7, li8, li9, li10, li11, li12, li13, li14, li15, li16, li17, li18, li19, li20, li21, li22, li23, li24, li25, li26, li27, li28, li29, li30, li31, li32, li39, li40, li41, li43, li47, li48, li57, li59, li60, li62, li63, li64, li81, li97, li99, li100, li122, li128, li152, li188, li189, li190, li191, li192, li255, li299, li380, li400, li488, li888, li999, li1000, li5368, li9999, neg1, b2i_z, b2i_o, b2i_e, b2i_t, b2i_f, oI_s, nI_on, on_nI, on_on, le_on, on_lt, on_le, lt_on, nI_leI, nI_ltI, nI_eq, nI_add, nI_mul, nI_subN, nI_subon, nI_addon, sh1, xorN, ite_true, ite_false, if_true, if_false, not_true_eq_false, not_false_eq_true, reduceCtorEq, G_oil hB W R, G_own hB W R, G_dark hB W R, G_way hB W R, G_pl hB W R, G_tp hB W R, G_hd hB W R, G_lt hB W R, R.n, R.k, R.hour, R.night, R.fog, R.mist, R.texts, R.seed, R.burn, e_isBurning W R, e_hasBit, e_bit, hbE, e_likesFor hB W R, e_hasWay hB W R, e_far hB W R, far_on, own_on W, hd_on W, own_is W, hd_is W]
    · simp -implicitDefEqProofs (disch := omega) only [X12_will, X12_will_17, X12_will_22, m_isWalker W M, c1, st_at, Nat.reduceLeDiff, bd_s, bd2_s, bdx_l, bdx_r, bdx2_l, bdx2_r, pu_s, gb0, gb1, gb_b, li0, li1, li2, li3, li4, li5, li6, li7, li8, li9, li10, li11, li12, li13, li14, li15, li16, li17, li18, li19, li20, li21, li22, li23, li24, li25, li26, li27, li28, li29, li30, li31, li32, li39, li40, li41, li43, li47, li48, li57, li59, li60, li62, li63, li64, li81, li97, li99, li100, li122, li128, li152, li188, li189, li190, li191, li192, li255, li299, li380, li400, li488, li888, li999, li1000, li5368, li9999, neg1, b2i_z, b2i_o, b2i_e, b2i_t, b2i_f, oI_s, nI_on, on_nI, on_on, le_on, on_lt, on_le, lt_on, nI_leI, nI_ltI, nI_eq, nI_add, nI_mul, nI_subN, nI_subon, nI_addon, sh1, xorN, ite_true, ite_false, if_true, if_false, not_true_eq_false, not_false_eq_true, reduceCtorEq, o_oil W M, o_burn W M, o_own W M, o_dark W M, o_pl W M, o_tp W M, o_hd W M, o_lt W M, a_n M, a_k M, a_hour M, a_night M, a_fog M, a_mist M, a_logs M, a_seed M, a_texts M, e_isOf, hbE, m_isWay W M, m_far W M, m_nextTo W M, m_liking W M, m_likesOwner W M, m_lesser, m_greater, m_isIn, far_on, own_on W, hd_on W, own_is W, hd_is W]
theorem r_9 (hC : Core (1000 * j) σ v L) (hR : Rest (1000 * j) σ v.txt) : ∃ σ3, lw_9 x1 x2 x3 x4 x5 σ = some (true, σ3) ∧ Inv (j + 1) σ3 := by
  obtain ⟨W, R, M, K, KT, Kl⟩ := id hC
  have hB := kd9
  have h9 := W.n9
  have h6 := W.k6
  by_cases c1 : isP v.k x1 = true
  · by_cases c2 : isP v.n x2 = true
    · obtain ⟨w, w1, rfl⟩ := isP_t (by omega) c1
      obtain ⟨p, p1, rfl⟩ := isP_t (by omega) c2
      have htp := W.tp w w1
      obtain ⟨τ, t1, t2⟩ := e_lets W R K (likes := v.lo w p) w1 p1 (taper := v.tp w) (by omega)
      refine rbM (σ1 := τ) hC hR (r := v.lits L w p (v.lo w p) (v.tp w)) (t2.frc hR.2.2.2.2) ?_ (fun ρ2 hρ M1 M2 hb => ?_)
      · unfold L_lights X11_lights
        rw [e_needWalker R, if_pos c1, bdx_l, e_needPane R, if_pos c2, bdx_l, e_likesFor hB W R w1 p1, bd_s, show X6_get σ 20 (nI w) = _ from g_tp hB W R w1, bd_s, t1, bd2_s, gb_b, bd_s]
        cases v.lits L w p (v.lo w p) (v.tp w) <;> rfl
      · unfold X12_lights X12_lights_22
        rw [m_isWalker W M1, c1, bd_s, if_neg (show ¬ b2i true = 0 by decide), m_isPane W M1, c2, bd_s, if_neg (show ¬ b2i true = 0 by decide), pu_s, bd_s, st_at, if_pos (by decide)]
        obtain ⟨τ2, u1, u2⟩ := m_doesLight W M2 KT hb w1 p1
        rw [show (0 : Int32) = nI 0 from rfl, u1, bd2_s]
        refine ⟨τ2, ?_, ML.ok u2⟩
        cases v.lits L w p (v.lo w p) (v.tp w) <;> rfl
    · rw [Bool.not_eq_true] at c2
      refine rbT hC hR (k := nI 1) (r := false) n0 ?_ ?_
      · simp -implicitDefEqProofs (disch := omega) only [L_lights, X11_lights, e_needWalker R, e_needPane R, c1, c2, hx_1, Bool.false_eq_true, bd_s, bd2_s, bdx_l, bdx_r, bdx2_l, bdx2_r, pu_s, gb0, gb1, gb_b, li0, li1, li2, li3, li4, li5, li6, li7, li8, li9, li10, li11, li12, li13, li14, li15, li16, li17, li18, li19, li20, li21, li22, li23, li24, li25, li26, li27, li28, li29, li30, li31, li32, li39, li40, li41, li43, li47, li48, li57, li59, li60, li62, li63, li64, li81, li97, li99, li100, li122, li128, li152, li188, li189, li190, li191, li192, li255, li299, li380, li400, li488, li888, li999, li1000, li5368, li9999, neg1, b2i_z, b2i_o, b2i_e, b2i_t, b2i_f, oI_s, nI_on, on_nI, on_on, le_on, on_lt, on_le, lt_on, nI_leI, nI_ltI, nI_eq, nI_add, nI_mul, nI_subN, nI_subon, nI_addon, sh1, xorN, ite_true, ite_false, if_true, if_false, not_true_eq_false, not_false_eq_true, reduceCtorEq, G_oil hB W R, G_own hB W R, G_dark hB W R, G_way hB W R, G_pl hB W R, G_tp hB W R, G_hd hB W R, G_lt hB W R, R.n, R.k, R.hour, R.night, R.fog, R.mist, R.texts, R.seed, R.burn, e_isBurning W R, e_hasBit, e_bit, hbE, e_likesFor hB W R, e_hasWay hB W R, e_far hB W R, far_on, own_on W, hd_on W, own_is W, hd_is W]
      · simp -implicitDefEqProofs (disch := omega) only [X12_lights, X12_lights_17, X12_lights_22, m_isWalker W M, m_isPane W M, c1, c2, st_at, Nat.reduceLeDiff, Nat.reduceEqDiff, bd_s, bd2_s, bdx_l, bdx_r, bdx2_l, bdx2_r, pu_s, gb0, gb1, gb_b, li0, li1, li2, li3, li4, li5, li6, li7, li8, li9, li10, li11, li12, li13, li14, li15, li16, li17, li18, li19, li20, li21, li22, li23, li24, li25, li26, li27, li28, li29, li30, li31, li32, li39, li40, li41, li43, li47, li48, li57, li59, li60, li62, li63, li64, li81, li97, li99, li100, li122, li128, li152, li188, li189, li190, li191, li192, li255, li299, li380, li400, li488, li888, li999, li1000, li5368, li9999, neg1, b2i_z, b2i_o, b2i_e, b2i_t, b2i_f, oI_s, nI_on, on_nI, on_on, le_on, on_lt, on_le, lt_on, nI_leI, nI_ltI, nI_eq, nI_add, nI_mul, nI_subN, nI_subon, nI_addon, sh1, xorN, ite_true, ite_false, if_true, if_false, not_true_eq_false, not_false_eq_true, reduceCtorEq, o_oil W M, o_burn W M, o_own W M, o_dark W M, o_pl W M, o_tp W M, o_hd W M, o_lt W M, a_n M, a_k M, a_hour M, a_night M, a_fog M, a_mist M, a_logs M, a_seed M, a_texts M, e_isOf, hbE, m_isWay W M, m_far W M, m_nextTo W M, m_liking W M, m_likesOwner W M, m_lesser, m_greater, m_isIn, far_on, own_on W, hd_on W, own_is W, hd_is W]
  · rw [Bool.not_eq_true] at c1
    refine rbT hC hR (k := nI 1) (r := false) n0 ?_ ?_
    · simp -implicitDefEqProofs (disch := omega) only [L_lights, X11_lights, e_needWalker R, c1, hx_1, Bool.false_eq_true, bd_s, bd2_s, bdx_l, bdx_r, bdx2_l, bdx2_r, pu_s, gb0, gb1, gb_b, li0, li1, li2, li3, li4, li5, li6, li7, li8, li9, li10, li11, li12, li13, li14, li15, li16, li17, li18, li19, li20, li21, li22, li23, li24, li25, li26, li27, li28, li29, li30, li31, li32, li39, li40, li41, li43, li47, li48, li57, li59, li60, li62, li63, li64, li81, li97, li99, li100, li122, li128, li152, li188, li189, li190, li191, li192, li255, li299, li380, li400, li488, li888, li999, li1000, li5368, li9999, neg1, b2i_z, b2i_o, b2i_e, b2i_t, b2i_f, oI_s, nI_on, on_nI, on_on, le_on, on_lt, on_le, lt_on, nI_leI, nI_ltI, nI_eq, nI_add, nI_mul, nI_subN, nI_subon, nI_addon, sh1, xorN, ite_true, ite_false, if_true, if_false, not_true_eq_false, not_false_eq_true, reduceCtorEq, G_oil hB W R, G_own hB W R, G_dark hB W R, G_way hB W R, G_pl hB W R, G_tp hB W R, G_hd hB W R, G_lt hB W R, R.n, R.k, R.hour, R.night, R.fog, R.mist, R.texts, R.seed, R.burn, e_isBurning W R, e_hasBit, e_bit, hbE, e_likesFor hB W R, e_hasWay hB W R, e_far hB W R, far_on, own_on W, hd_on W, own_is W, hd_is W]
    · simp -implicitDefEqProofs (disch := omega) only [X12_lights, X12_lights_17, X12_lights_22, m_isWalker W M, c1, st_at, Nat.reduceLeDiff, Nat.reduceEqDiff, bd_s, bd2_s, bdx_l, bdx_r, bdx2_l, bdx2_r, pu_s, gb0, gb1, gb_b, li0, li1, li2, li3, li4, li5, li6, li7, li8, li9, li10, li11, li12, li13, li14, li15, li16, li17, li18, li19, li20, li21, li22, li23, li24, li25, li26, li27, li28, li29, li30, li31, li32, li39, li40, li41, li43, li47, li48, li57, li59, li60, li62, li63, li64, li81, li97, li99, li100, li122, li128, li152, li188, li189, li190, li191, li192, li255, li299, li380, li400, li488, li888, li999, li1000, li5368, li9999, neg1, b2i_z, b2i_o, b2i_e, b2i_t, b2i_f, oI_s, nI_on, on_nI, on_on, le_on, on_lt, on_le, lt_on, nI_leI, nI_ltI, nI_eq, nI_add, nI_mul, nI_subN, nI_subon, nI_addon, sh1, xorN, ite_true, ite_false, if_true, if_false, not_true_eq_false, not_false_eq_true, reduceCtorEq, o_oil W M, o_burn W M, o_own W M, o_dark W M, o_pl W M, o_tp W M, o_hd W M, o_lt W M, a_n M, a_k M, a_hour M, a_night M, a_fog M, a_mist M, a_logs M, a_seed M, a_texts M, e_isOf, hbE, m_isWay W M, m_far W M, m_nextTo W M, m_liking W M, m_likesOwner W M, m_lesser, m_greater, m_isIn, far_on, own_on W, hd_on W, own_is W, hd_is W]
/-! looking for the first hour: the street that stands aside -/
theorem e_fst9 {Lp : Nat → Int32 → Mem → Option (Int32 × Mem)} {c : Nat → View → Option Nat} (hc : ∀ n u r, c n u = some r → r < 2 ^ 31) (h0 : ∀ f τ, Lp (f + 1) (nI 61) τ = some (oI none, τ)) (h1 : ∀ f τ n u e, n < 61 → WF u → SC τ 366 u e → e + 15 < 2 ^ 30 → Kp v u → Lp (f + 1) (nI n) τ = match c n u with | some r => some (nI r, τ) | none => bd2 (X0_tick 366 72 0 τ) fun _ τ2 => Lp f (nI (n + 1)) τ2) (hj : j < 512) (hC : Core (1000 * j) σ v L) (hM : Mis σ) : ∃ σ2, (bd (X7_copyFrom 366 9 σ) fun τ => Lp FU 0 τ) = some (oI (View.fst c L 61 0 v), σ2) ∧ FrC σ σ2 := by
  obtain ⟨W, R, M, K, KT, Kl⟩ := hC
  obtain ⟨τ, t1, t2, t3⟩ := e_copy kd366 kd9' (Or.inr (by decide)) R W
  have K1 : LC τ 72 L := K.move fun c h1 h2 => t3 c (by omega)
  obtain ⟨σ2, q1, q2⟩ := e_fst (Lp := Lp) (c := c) (fuel := FU) rfl hc h0 h1 W t2 K1 (by omega) (FUb (by omega))
  rw [t1, bd_s, show (0 : Int32) = nI 0 from rfl]
  exact ⟨σ2, q1, FrC.of hM fun b b1 b2 b3 b4 b5 => by rw [q2 b b3 b1 b2, t3 b (by omega)]⟩
theorem m_fst9 {Lp : Nat → Int32 → Int32 → Mem → Option (Int32 × Mem)} {c : Nat → View → Option Nat} (hc : ∀ n u r, c n u = some r → r < 2 ^ 31) (h0 : ∀ f x τ, Lp (f + 1) x (nI 61) τ = bd (X12_comesBack τ) fun τ2 => some (x, τ2)) (h2 : ∀ f r n τ, r < 2 ^ 31 → n < 61 → Lp (f + 1) (nI r) (nI n) τ = bd (X12_comesBack τ) fun τ2 => some (nI r, τ2)) (h1 : ∀ f τ n u, n < 61 → WF u → SM (τ 400) u → Kp v u → Lp (f + 1) (oI none) (nI n) τ = bd2 (X12_passes 0 τ) fun _ τ2 => Lp f (oI (c n u)) (nI (n + 1)) τ2) (W : WF v) (M : SM (σ 400) v) (K : LT v.txt L) (hb : BO σ) : ∃ σ2, (bd (X12_putsAside σ) fun τ => Lp FU (-1) 0 τ) = some (oI (View.fst c L 61 0 v), σ2) ∧ Ok σ σ2 := by
  rw [m_putsAside, bd_s]
  obtain ⟨a1, a2⟩ := aside_M hb
  generalize hτ : sr σ 402 (cpL (σ 400) (σ 402) 488) = τ at a1 a2
  obtain ⟨ρ, u, r1, r2, r3, r4⟩ := m_fst (Lp := Lp) (c := c) (out := fun x τ => bd (X12_comesBack τ) fun τ2 => some (x, τ2)) (σ := τ) (fuel := FU) hc h0 h2 h1 W (by rw [a2]; exact M) K a1.2.2 (FUb (by omega))
  rw [show (0 : Int32) = nI 0 from rfl, show (-1 : Int32) = oI none from rfl, r1]
  have h402 : ∀ i, i < 488 → ρ 402 i = σ 400 i := fun i hi => by rw [r4.1 402 (by decide) (by decide) (by decide), ← hτ]; exact aside_402 hi
  have hback := m_back M h402 r2 r3
  rw [hback, bd_s]
  refine ⟨_, rfl, (a1.trans r4.frM).sr4, by rw [sr_s], ?_⟩
  rw [sr_n (by decide), r4.2.1 0 (by omega), ← hτ, sr_n (by decide)]
/-- when a pane burns; when all is dark; the first spoon -/
noncomputable def cBurn (p : Nat) : Nat → View → Option Nat := fun n u => if u.burn p = true then some n else none
noncomputable def cDark : Nat → View → Option Nat := fun n u => if mkB u.burn u.n = 0 then some n else none
noncomputable def cSpoon : Nat → View → Option Nat := fun _ u => lowL (fun p => decide (u.own p ≠ none) && decide (3 ≤ u.dark p)) 0 u.n
theorem e_firstBurning (hj : j < 512) (hC : Core (1000 * j) σ v L) (hM : Mis σ) {p : Nat} (hp : p < v.n) : ∃ σ2, X0_firstBurning 9 72 (nI p) σ = some (oI (View.fst (fun n u => if n < 61 then cBurn p n u else none) L 61 0 v), σ2) ∧ FrC σ σ2 := by
  refine e_fst9 (Lp := fun f n τ => X0_firstBurning_11 f 72 (nI p) n τ) (fun n u r h => ?_) (fun f τ => ?_) (fun f τ n u e hn W1 R1 he hk => ?_) hj hC hM
  · unfold cBurn at h
    split at h
    · split at h
      · cases h; omega
      · cases h
    · cases h
  · rw [X0_firstBurning_11, if_pos (show (60 : Int32) < nI 61 by decide)]; rfl
  · rw [X0_firstBurning_11, if_neg (show ¬ (60 : Int32) < nI n from nI_nlt (a := 60) (b := n) (by omega) (by omega)), e_isBurning W1 R1 (by rw [hk.1]; exact hp), bd_s, nI_1]
    unfold cBurn
    rw [if_pos hn]
    cases u.burn p <;> rfl
theorem e_firstAllDark (hj : j < 512) (hC : Core (1000 * j) σ v L) (hM : Mis σ) : ∃ σ2, X0_firstAllDark 9 72 σ = some (oI (View.fst (fun n u => if n < 61 then cDark n u else none) L 61 0 v), σ2) ∧ FrC σ σ2 := by
  refine e_fst9 (Lp := fun f n τ => X0_firstAllDark_10 f 72 n τ) (fun n u r h => ?_) (fun f τ => ?_) (fun f τ n u e hn W1 R1 he hk => ?_) hj hC hM
  · unfold cDark at h
    split at h
    · split at h
      · cases h; omega
      · cases h
    · cases h
  · rw [X0_firstAllDark_10, if_pos (show (60 : Int32) < nI 61 by decide)]; rfl
  · rw [X0_firstAllDark_10, if_neg (show ¬ (60 : Int32) < nI n from nI_nlt (a := 60) (b := n) (by omega) (by omega)), R1.burn, nI_1]
    unfold cDark
    rw [if_pos hn]
    by_cases h : mkB u.burn u.n = 0
    · rw [if_pos h, if_pos h]
    · rw [if_neg h, if_neg h]
theorem m_whenOf (W : WF v) (M : SM (σ 400) v) (K : LT v.txt L) (hb : BO σ) {p : Nat} (hp : p < v.n) : ∃ σ2, X12_whenOf (nI p) σ = some (oI (View.fst (fun n u => if n < 61 then cBurn p n u else none) L 61 0 v), σ2) ∧ Ok σ σ2 := by
  refine m_fst9 (Lp := fun f x n τ => X12_whenOf_8 f (nI p) x n τ) (fun n u r h => ?_) (fun f x τ => ?_) (fun f r n τ hr hn => ?_) (fun f τ n u hn W1 M1 hk => ?_) W M K hb
  · unfold cBurn at h
    split at h
    · split at h
      · cases h; omega
      · cases h
    · cases h
  · rw [X12_whenOf_8, if_pos (show (60 : Int32) < nI 61 by decide)]; rfl
  · rw [X12_whenOf_8, if_neg (show ¬ (60 : Int32) < nI n from nI_nlt (a := 60) (b := n) (by omega) (by omega)), if_neg (show ¬ nI r = -1 from nI_m1 hr)]; rfl
  · rw [X12_whenOf_8, if_neg (show ¬ (60 : Int32) < nI n from nI_nlt (a := 60) (b := n) (by omega) (by omega)), if_pos (show oI none = -1 from rfl), show (1 : Int32) = nI 1 from rfl, o_burn W1 M1 (by rw [hk.1]; exact hp), bd_s]
    unfold cBurn X12_whenOf_31
    rw [if_pos hn, nI_1]
    cases u.burn p <;> rfl
theorem m_outs (W : WF v) (M : SM (σ 400) v) (K : LT v.txt L) (hb : BO σ) : ∃ σ2, (bd (X12_putsAside σ) fun τ => X12_out_13 FU (-1) 0 τ) = some (oI (View.fst (fun n u => if n < 61 then cDark n u else none) L 61 0 v), σ2) ∧ Ok σ σ2 := by
  refine m_fst9 (Lp := fun f x n τ => X12_out_13 f x n τ) (fun n u r h => ?_) (fun f x τ => ?_) (fun f r n τ hr hn => ?_) (fun f τ n u hn W1 M1 hk => ?_) W M K hb
  · unfold cDark at h
    split at h
    · split at h
      · cases h; omega
      · cases h
    · cases h
  · rw [X12_out_13, if_pos (show (60 : Int32) < nI 61 by decide)]; rfl
  · rw [X12_out_13, if_neg (show ¬ (60 : Int32) < nI n from nI_nlt (a := 60) (b := n) (by omega) (by omega)), if_neg (show ¬ nI r = -1 from nI_m1 hr)]; rfl
  · rw [X12_out_13, if_neg (show ¬ (60 : Int32) < nI n from nI_nlt (a := 60) (b := n) (by omega) (by omega)), if_pos (show oI none = -1 from rfl), m_burning W1 M1, bd_s]
    unfold cDark X12_out_33
    rw [if_pos hn, nI_1]
    by_cases h : mkB u.burn u.n = 0
    · rw [if_pos h, if_pos h]; rfl
    · rw [if_neg h, if_neg h]
theorem r_20 (hj : j < 512) (hC : Core (1000 * j) σ v L) (hR : Rest (1000 * j) σ v.txt) : ∃ σ3, lw_20 x1 x2 x3 x4 x5 σ = some (true, σ3) ∧ Inv (j + 1) σ3 := by
  obtain ⟨W, R, M, K, KT, Kl⟩ := id hC
  obtain ⟨τ, t1, t2⟩ := e_firstAllDark hj hC hR.2.2.2.2
  refine rrM (σ1 := τ) hC hR t2 (by unfold X11_out; rw [t1, bd2_s]) (fun M2 hb => ?_)
  unfold X12_out
  rw [pu_s, bd_s]
  exact m_outs W M2 KT hb
theorem lowL_lt {f : Nat → Bool} {m i r : Nat} (h : lowL f i m = some r) : r < i + m := by
  rw [lowL_some] at h; exact h.2.1
theorem e_firstSpoon (hj : j < 512) (hC : Core (1000 * j) σ v L) (hM : Mis σ) : ∃ σ2, X0_firstSpoon 9 72 σ = some (oI (View.fst (fun _ u => if u.n ≤ 9 then cSpoon 0 u else none) L 61 0 v), σ2) ∧ FrC σ σ2 := by
  refine e_fst9 (Lp := fun f n τ => X0_firstSpoon_10 f 72 n τ) (fun n u r h => ?_) (fun f τ => ?_) (fun f τ n u e hn W1 R1 he hk => ?_) hj hC hM
  · split at h
    · have := lowL_lt h; omega
    · cases h
  · rw [X0_firstSpoon_10, if_pos (show (60 : Int32) < nI 61 by decide)]; rfl
  · rw [X0_firstSpoon_10, if_neg (show ¬ (60 : Int32) < nI n from nI_nlt (a := 60) (b := n) (by omega) (by omega))]
    have h9 := W1.n9
    rw [if_pos h9]
    unfold cSpoon
    have key : ∀ (m i fuel : Nat), i + m = u.n → m < fuel → X0_firstSpoon_19 (X0_firstSpoon_10 f) fuel 72 (nI n) (nI i) τ = match lowL (fun p => decide (u.own p ≠ none) && decide (3 ≤ u.dark p)) i m with | some r => some (nI r, τ) | none => bd2 (X0_tick 366 72 0 τ) fun _ τ2 => X0_firstSpoon_10 f 72 (nI (n + 1)) τ2 := by
      intro m
      induction m with
      | zero =>
        intro i fuel hi hf
        obtain ⟨fuel, rfl⟩ : ∃ z, fuel = z + 1 := ⟨fuel - 1, by omega⟩
        rw [X0_firstSpoon_19, R1.n, if_pos (nI_le (by omega) (by omega)), nI_1]; rfl
      | succ m ih =>
        intro i fuel hi hf
        obtain ⟨fuel, rfl⟩ : ∃ z, fuel = z + 1 := ⟨fuel - 1, by omega⟩
        have hd := W1.dark i (by omega)
        rw [X0_firstSpoon_19, R1.n, if_neg (nI_ge (by omega) (by omega)), show X6_get τ 369 (nI i) = _ from g_own kd366 W1 R1 (by omega), bd_s, lowL]
        by_cases c : u.own i = none
        · rw [if_pos (show oI (u.own i) = -1 by rw [c]; rfl), if_neg (by simp [c]), nI_1]
          exact ih (i + 1) fuel (by omega) (by omega)
        · rw [if_neg (fun z : oI (u.own _) = -1 => c ((own_on W1 (by omega)).mp z)), show X6_get τ 371 (nI i) = _ from g_dark kd366 W1 R1 (by omega), bd_s]
          by_cases c2 : 3 ≤ u.dark i
          · rw [if_neg (show ¬ nI (u.dark i) < 3 from nI_nlt (b := 3) (by omega) (by omega)), if_pos (by simp [c, c2])]
          · rw [if_pos (show nI (u.dark i) < 3 from nI_lt (b := 3) (by omega) (by omega)), if_neg (by simp [c2]), nI_1]
            exact ih (i + 1) fuel (by omega) (by omega)
    exact key u.n 0 FU (by omega) (FUb (by omega))
theorem lowL_app {f : Nat → Bool} : ∀ (m i : Nat), lowL f i (m + 1) = (lowL f i m).or (if f (i + m) = true then some (i + m) else none) := by
  intro m
  induction m with
  | zero => intro i; rw [lowL, lowL]; simp only [Nat.add_zero]; by_cases h : f i = true <;> simp [h, lowL]
  | succ m ih =>
    intro i
    rw [lowL]
    by_cases h : f i = true
    · rw [if_pos h, lowL, if_pos h]; rfl
    · rw [if_neg h, ih (i + 1), lowL, if_neg h, show i + 1 + m = i + (m + 1) by omega]
theorem m_spoons (W : WF v) (M : SM (σ 400) v) (K : LT v.txt L) (hb : BO σ) : ∃ σ2, (bd (X12_putsAside σ) fun τ => X12_spoon_13 FU (-1) 0 τ) = some (oI (View.fst (fun _ u => if u.n ≤ 9 then cSpoon 0 u else none) L 61 0 v), σ2) ∧ Ok σ σ2 := by
  refine m_fst9 (Lp := fun f x n τ => X12_spoon_13 f x n τ) (fun n u r h => ?_) (fun f x τ => ?_) (fun f r n τ hr hn => ?_) (fun f τ n u hn W1 M1 hk => ?_) W M K hb
  · split at h
    · have := lowL_lt h; omega
    · cases h
  · rw [X12_spoon_13, if_pos (show (60 : Int32) < nI 61 by decide)]; rfl
  · rw [X12_spoon_13, if_neg (show ¬ (60 : Int32) < nI n from nI_nlt (a := 60) (b := n) (by omega) (by omega)), if_neg (show ¬ nI r = -1 from nI_m1 hr)]; rfl
  · have h9 := W1.n9
    rw [X12_spoon_13, if_neg (show ¬ (60 : Int32) < nI n from nI_nlt (a := 60) (b := n) (by omega) (by omega)), if_pos (show oI none = -1 from rfl), show (3 : Int32) = nI 3 from rfl, a_n M1, bd_s, if_pos h9]
    unfold cSpoon
    have key : ∀ (m fuel : Nat) (x : Option Nat), m ≤ u.n → m < fuel → X12_spoon_33 (X12_spoon_13 f) fuel (oI x) (nI n) (nI m - nI 1) τ = bd2 (X12_passes 0 τ) fun _ τ2 => X12_spoon_13 f (oI ((lowL (fun p => decide (u.own p ≠ none) && decide (3 ≤ u.dark p)) 0 m).or x)) (nI (n + 1)) τ2 := by
      intro m
      induction m with
      | zero =>
        intro fuel x hi hf
        obtain ⟨fuel, rfl⟩ : ∃ z, fuel = z + 1 := ⟨fuel - 1, by omega⟩
        rw [show nI 0 - nI 1 = oI none from rfl, X12_spoon_33, if_pos (show oI none < 0 by decide), nI_1]; rfl
      | succ m ih =>
        intro fuel x hi hf
        obtain ⟨fuel, rfl⟩ : ∃ z, fuel = z + 1 := ⟨fuel - 1, by omega⟩
        have hd := W1.dark m (by omega)
        have hnx : nI m + -1 = nI m - nI 1 := by rw [Int32.sub_eq_add_neg]; rfl
        rw [show nI (m + 1) - nI 1 = nI m from nI_pred m, X12_spoon_33, if_neg (nI_pos (by omega)), show (2 : Int32) = nI 2 from rfl, o_own W1 M1 (by omega), bd_s, lowL_app, Nat.zero_add, hnx]
        by_cases c : u.own m = none
        · rw [if_pos (show oI (u.own m) = -1 by rw [c]; rfl), if_neg (by simp [c]), ih fuel x (by omega) (by omega)]
          simp only [Option.or_none]
        · rw [if_neg (fun z : oI (u.own _) = -1 => c ((own_on W1 (by omega)).mp z)), show (3 : Int32) = nI 3 from rfl, o_dark W1 M1 (by omega), bd_s]
          by_cases c2 : 3 ≤ u.dark m
          · rw [if_neg (show ¬ nI (u.dark m) < nI 3 from nI_nlt (by omega) (by omega)), if_pos (by simp [c, c2]), show nI m = oI (some m) from rfl]
            have := ih fuel (some m) (by omega) (by omega)
            rw [show nI m - nI 1 = oI (some m) - nI 1 from rfl] at this
            rw [this]
            cases lowL (fun p => decide (u.own p ≠ none) && decide (3 ≤ u.dark p)) 0 m <;> rfl
          · rw [if_pos (show nI (u.dark m) < nI 3 from nI_lt (by omega) (by omega)), if_neg (by simp [c2]), ih fuel x (by omega) (by omega)]
            simp only [Option.or_none]
    have := key u.n FU none (Nat.le_refl _) (FUb (by omega))
    simp only [Option.or_none] at this
    exact this
theorem r_21 (hj : j < 512) (hC : Core (1000 * j) σ v L) (hR : Rest (1000 * j) σ v.txt) : ∃ σ3, lw_21 x1 x2 x3 x4 x5 σ = some (true, σ3) ∧ Inv (j + 1) σ3 := by
  obtain ⟨W, R, M, K, KT, Kl⟩ := id hC
  obtain ⟨τ, t1, t2⟩ := e_firstSpoon hj hC hR.2.2.2.2
  refine rrM (σ1 := τ) hC hR t2 (by unfold X11_spoon; rw [t1, bd2_s]) (fun M2 hb => ?_)
  unfold X12_spoon
  rw [pu_s, bd_s]
  exact m_spoons W M2 KT hb
end ROADS3

/-! snuffs; the seed; back again -/
section ROADS7
variable {σ σ1 σ2 : Mem} {v u : View} {L : Lw} {j nx K e : Nat} {x1 x2 x3 x4 x5 : Int32}
theorem r_14 (hj : j < 512) (hC : Core (1000 * j) σ v L) (hR : Rest (1000 * j) σ v.txt) : ∃ σ3, lw_14 x1 x2 x3 x4 x5 σ = some (true, σ3) ∧ Inv (j + 1) σ3 := by
  obtain ⟨W, R, M, KL, KT, Kl⟩ := id hC
  have h9 := W.n9
  have k6 := W.k6
  by_cases c1 : isP v.n x1 = true
  · obtain ⟨p, p1, rfl⟩ := isP_t (by omega) c1
    have hoi := W.oil p p1
    cases hbn : v.burn p with
    | false =>
      refine rqT hC hR (k := nI 2) (r := nI 0) n2 ?_ ?_
      · unfold L_snuff X11_snuff X11_snuff_31
        rw [e_needPane R, if_pos c1, bdx_l, e_isBurning W R p1, bd_s, hbn, if_pos (show b2i false = 0 from rfl), bdx2_r]
        rfl
      · have M2 : SM ((st σ 399 0 (nI 0)) 400) v := sm_th M
        have e0 : st (st σ 399 0 (nI 0)) 399 0 2 = st σ 399 0 2 := st_st
        unfold X12_snuff X12_snuff_14 X12_snuff_46
        rw [m_isPane W M, c1, bd_s, if_neg (show ¬ b2i true = 0 by decide), pu_s, bd_s, st_at, if_pos (by decide), show st σ 399 0 0 = st σ 399 0 (nI 0) from rfl, show X12_of (st σ 399 0 (nI 0)) (nI p) 1 = _ from o_burn W M2 p1, bd_s, hbn, if_pos (show b2i false = 0 from rfl)]
        unfold X12_snuff_51
        rw [pu_s, bd_s, st_at, if_neg (by decide), e0]; rfl
    | true =>
      cases ho : v.own p with
      | none =>
        refine rqT hC hR (k := nI 2) (r := nI 0) n2 ?_ ?_
        · unfold L_snuff X11_snuff X11_snuff_31
          rw [e_needPane R, if_pos c1, bdx_l, e_isBurning W R p1, bd_s, hbn, if_neg (show ¬ b2i true = 0 by decide), show X6_get σ 12 (nI p) = _ from g_own kd9 W R p1, bd_s, ho, if_pos (show oI none = -1 from rfl), bdx2_r]
          rfl
        · have M2 : SM ((st σ 399 0 (nI 0)) 400) v := sm_th M
          have e0 : st (st σ 399 0 (nI 0)) 399 0 2 = st σ 399 0 2 := st_st
          unfold X12_snuff X12_snuff_14 X12_snuff_46
          rw [m_isPane W M, c1, bd_s, if_neg (show ¬ b2i true = 0 by decide), pu_s, bd_s, st_at, if_pos (by decide), show st σ 399 0 0 = st σ 399 0 (nI 0) from rfl, show X12_of (st σ 399 0 (nI 0)) (nI p) 1 = _ from o_burn W M2 p1, bd_s, hbn, if_neg (show ¬ b2i true = 0 by decide), show X12_of (st σ 399 0 (nI 0)) (nI p) 2 = _ from o_own W M2 p1, bd_s, ho, if_pos (show oI none = -1 from rfl)]
          unfold X12_snuff_51
          rw [pu_s, bd_s, st_at, if_neg (by decide), e0]; rfl
      | some o =>
        have hok := W.own p o p1 ho
        have W2 : WF (v.w_burn (fun q => if q = p then false else v.burn q)) := (by
    unfold WF
    try simp only [VR]
    exact ⟨W.n9, W.k6, W.texts, W.hour, W.night, W.fog, W.oil, W.dark, W.own, W.one, 
      fun q hq h => by
            split at h
            · cases h
            · exact W.burn q hq h, W.sym, W.irr, W.pl, W.tp, W.lt, W.hd, W.like, W.self, W.log, W.rows⟩)
        have W3 : WF ((v.w_burn (fun q => if q = p then false else v.burn q)).write 3 p (some o)) := W2.write (by decide) (by omega) (fun x hx => by cases hx; omega)
        have htx : ((v.w_burn (fun q => if q = p then false else v.burn q)).write 3 p (some o)).txt = v.txt := by unfold View.write; simp only [VR]
        have hoil : ((v.w_burn (fun q => if q = p then false else v.burn q)).write 3 p (some o)).oil = v.oil := by unfold View.write; simp only [VR]
        have hnn : ((v.w_burn (fun q => if q = p then false else v.burn q)).write 3 p (some o)).n = v.n := by unfold View.write; simp only [VR]
        have n1 : (v.w_burn (fun q => if q = p then false else v.burn q)).n = v.n := by simp only [VR]
        have o1 : (v.w_burn (fun q => if q = p then false else v.burn q)).own = v.own := by simp only [VR]
        refine rqA (u := (v.w_burn (fun q => if q = p then false else v.burn q)).write 3 p (some o)) hC hR (r := nI (v.oil p)) W3 htx (fun nx K hn hK h1 h2 => ?_) (fun ρ K hK M1 M2 hb h6 => ?_)
        · obtain ⟨τ, t1, t2, t3, t4⟩ := e_rem hC hn hK h1 h2
          have R2 := t3.s_burn (fun q => if q = p then false else v.burn q)
          have hb8 : (τ 9 8) &&& (bitv p ^^^ (-1 : Int32)) = mkB (fun q => if q = p then false else v.burn q) v.n := by
            rw [t3.burn, show (-1 : Int32) = oI none from rfl, xorN, mk_and_not (by omega)]
            apply mk_congr
            intro i hi
            rw [hb_bit (by omega) (by omega)]
            by_cases c : i = p <;> simp [c]
          obtain ⟨τ2, s1, s2, s3⟩ := e_write kd9 W2 R2 (by omega) (kd := 3) (pn := p) (wk := some o)
          have go : X6_get (st τ 9 8 (mkB (fun q => if q = p then false else v.burn q) v.n)) 12 (nI p) = some (oI (some o)) := by
            have := g_own kd9 W2 R2 (p := p) (by rw [n1]; exact p1)
            rw [o1, ho] at this
            exact this
          have gi : X6_get τ2 10 (nI p) = some (nI (v.oil p)) := by
            have := g_oil kd9 W3 s2 (p := p) (by rw [hnn]; exact p1)
            rw [hoil] at this
            exact this
          unfold L_snuff X11_snuff
          rw [e_needPane R, if_pos c1, bdx_l, e_isBurning W R p1, bd_s, hbn, if_neg (show ¬ b2i true = 0 by decide), show X6_get σ 12 (nI p) = _ from g_own kd9 W R p1, bd_s, ho, if_neg (show ¬ oI (some o) = -1 from nI_m1 (by omega)), t1, bd_s, e_bit, bd_s, pu_s, bd_s, hb8, go, bd_s, show (3 : Int32) = nI 3 from rfl, s1, bd_s, gi, bd_s]
          exact ⟨τ2, rfl, t2.then hn fun c c1 c2 c3 c4 => by rw [s3 c (by omega) (by omega), st_n (by omega)], s2.mono (by omega)⟩
        · obtain ⟨τ, t1, t2, t3, t4⟩ := m_sets hb hK h6 (i := 11 + 4 * p + 1) (x := b2i false) (by omega)
          have M3 : SM (τ 400) (v.w_burn (fun q => if q = p then false else v.burn q)) := by
            rw [t3]
            exact M2.s_burn h9 W.k6 W.log p1 false
          obtain ⟨τ2, s1, s2, s3⟩ := m_logs W2 M3 (kd := 3) (pn := p) (wk := some o)
          have go : X12_of τ (nI p) 2 = some (oI (some o)) := by
            have := o_own W2 M3 (show p < _ by rw [n1]; exact p1)
            rw [o1, ho] at this
            exact this
          have gi : X12_of τ2 (nI p) 0 = some (nI (v.oil p)) := by
            have := o_oil W3 s2 (show p < _ by rw [hnn]; exact p1)
            rw [hoil] at this
            exact this
          have ix : ((11 : Int32) + ((4 : Int32) * nI p)) + (1 : Int32) = nI (11 + 4 * p + 1) := by
            rw [show (11 : Int32) = nI 11 from rfl, show (4 : Int32) = nI 4 from rfl, show (1 : Int32) = nI 1 from rfl, nI_mul, nI_add, nI_add]
          have e0 : st (st ρ 399 0 (nI 0)) 399 0 (nI 0) = st ρ 399 0 (nI 0) := st_st
          unfold X12_snuff X12_snuff_14
          rw [m_isPane W M1, c1, bd_s, if_neg (show ¬ b2i true = 0 by decide), pu_s, bd_s, st_at, if_pos (by decide), show st ρ 399 0 0 = st ρ 399 0 (nI 0) from rfl, show X12_of (st ρ 399 0 (nI 0)) (nI p) 1 = _ from o_burn W M2 p1, bd_s, hbn, if_neg (show ¬ b2i true = 0 by decide), show X12_of (st ρ 399 0 (nI 0)) (nI p) 2 = _ from o_own W M2 p1, bd_s, ho, if_neg (show ¬ oI (some o) = -1 from nI_m1 (by omega))]
          unfold X12_snuff_51
          rw [pu_s, bd_s, st_at, if_pos (by decide), show st (st ρ 399 0 (nI 0)) 399 0 0 = st ρ 399 0 (nI 0) from e0, ix, show (0 : Int32) = b2i false from rfl, t1, bd2_s, go, bd_s, show (3 : Int32) = nI 3 from rfl, s1, bd_s, show b2i false = (0 : Int32) from rfl, gi, bd_s]
          exact ⟨τ2, rfl, t2.then4 s3, s2, by rw [s3 399 (by decide), t4, st_at]⟩
  · rw [Bool.not_eq_true] at c1
    refine rqT hC hR (k := nI 1) (r := nI 0) n0 ?_ ?_
    · unfold L_snuff X11_snuff
      rw [e_needPane R, c1, if_neg (by decide), bdx_r, bdx2_r]
      rfl
    · unfold X12_snuff X12_snuff_14
      rw [m_isPane W M, c1, bd_s, if_pos (show b2i false = 0 from rfl), pu_s, bd_s, st_at, if_neg (by decide)]
      rfl
/-- the rest, where the component changed its street alone and the reference its row -/
theorem Rest.own (h : Rest e σ v.txt) (h1 : ∀ c, c < 9 ∨ 30 ≤ c → c ≠ 82 → c ≠ 84 → c ≠ 399 → c ≠ 400 → σ2 c = σ c) (h2 : ∀ i, i ≠ 0 → σ2 399 i = σ 399 i) : Rest e σ2 v.txt := by
  obtain ⟨a1, a2, a3, a4, a5⟩ := h
  have f : ∀ c, c < 9 ∨ (30 ≤ c ∧ c < 82) ∨ (85 ≤ c ∧ c < 399) ∨ 401 ≤ c → σ2 c = σ c := fun c hc => h1 c (by omega) (by omega) (by omega) (by omega) (by omega)
  refine ⟨?_, a2.move (f 1 (by omega)) (f 3 (by omega)) (h2 8 (by decide)) (h2 12 (by decide)) (f 404 (by omega)), a3.move (fun c c1 c2 => f c (by omega)) (h2 6 (by decide)) (f 403 (by omega)), a4.move (f 0 (by omega)) (fun c hc => f c (by omega)) (h2 3 (by decide)) (f 401 (by omega)), ?_⟩
  · unfold BO; rw [h2 15 (by decide), h2 17 (by decide)]; exact a1
  · unfold Mis
    rw [f 391 (by omega), f 398 (by omega)]
    exact a5
theorem Rest.mono (h : Rest e σ v.txt) {e2 : Nat} (he : e ≤ e2) : Rest e2 σ v.txt := ⟨h.1, h.2.1, h.2.2.1.mono he, h.2.2.2.1.mono he, h.2.2.2.2⟩
theorem r_49 (hC : Core (1000 * j) σ v L) (hR : Rest (1000 * j) σ v.txt) : ∃ σ3, lw_49 x1 x2 x3 x4 x5 σ = some (true, σ3) ∧ Inv (j + 1) σ3 := by
  obtain ⟨W, R, M, KL, KT, Kl⟩ := id hC
  have M2 : SM ((st (st σ 9 7 x1) 399 0 (nI 0)) 400) v := by rw [st_n (by decide), st_n (by decide)]; exact M
  have W2 : WF (v.w_seed x1) := (by
    unfold WF
    try simp only [VR]
    exact ⟨W.n9, W.k6, W.texts, W.hour, W.night, W.fog, W.oil, W.dark, W.own, W.one, W.burn, W.sym, W.irr, W.pl, W.tp, W.lt, W.hd, W.like, W.self, W.log, W.rows⟩)
  refine road1 (b := v.seed) (σ1 := st σ 9 7 x1) (σ2 := st (st (st σ 9 7 x1) 399 0 (nI 0)) 400 10 x1) ?_ ?_ ?_
  · unfold X11_seed; rw [pu_s, bd_s, R.seed]
  · unfold X12_seed
    rw [pu_s, bd_s, show st (st σ 9 7 x1) 399 0 0 = st (st σ 9 7 x1) 399 0 (nI 0) from rfl, show (10 : Int32) = nI 10 from rfl, m_at (by omega), bd_s, m_set (by omega), bd_s, M2.seed]
  · refine ⟨v.w_seed x1, L, ⟨W2, ?_, ?_, ?_, by simp only [VR]; exact KT, ?_⟩, ?_⟩
    · refine SC.mono ?_ (show 1000 * j ≤ 1000 * (j + 1) by omega)
      exact (R.s_seed x1).move fun c c1 c2 => by rw [st_n (by omega), st_n (by omega)]
    · rw [st_s]
      exact M2.s_seed W.n9 W.k6 W.log x1
    · exact KL.move fun c c1 c2 => by rw [st_n (by omega), st_n (by omega), st_n (by omega)]
    · rw [st_n (by decide), st_n (by decide), st_n (by decide)]; simp only [VR]; exact Kl
    · have : (v.w_seed x1).txt = v.txt := by simp only [VR]
      rw [this]
      refine (hR.own (fun c c1 c2 c3 c4 c5 => by rw [st_n (by omega), st_n (by omega), st_n (by omega)]) (fun i hi => by rw [st_n (by decide), st_at' hi, st_n (by decide)])).mono (by omega)
theorem gb_1 : gb 1 = some () := rfl
theorem r_51 (hC : Core (1000 * j) σ v L) (hR : Rest (1000 * j) σ v.txt) : ∃ σ3, lw_51 x1 x2 x3 x4 x5 σ = some (true, σ3) ∧ Inv (j + 1) σ3 := by
  obtain ⟨W, R, M, KL, KT, Kl⟩ := id hC
  obtain ⟨l0, l1, l2, l3⟩ := ln_m
  have kd51 : kd 51 = 2 := by decide +kernel
  obtain ⟨τ, t1, t2, t3⟩ := e_copy kd51 kd9 (Or.inr (by decide)) R W
  have K1 : LC τ 72 L := KL.move fun c c1 c2 => t3 c (by omega)
  obtain ⟨ρ, r1, r2, r3, r4⟩ := e_copyLaw (C := 98) (D := 72) (by decide +kernel) rfl (Or.inr (by decide)) K1
  have hA : X11_image σ = some (st ρ 0 7 1) := by
    unfold X11_image
    rw [t1, bd_s, r1, bd_s, gb_1, bd_s, pu_s, bd_s]
  have hB : ∀ τ : Mem, X12_image τ = some (st (sr (st τ 399 0 0) 401 (cpL ((st τ 399 0 0) 400) ((st τ 399 0 0) 401) 888)) 399 3 1) := by
    intro τ
    unfold X12_image
    rw [pu_s, bd_s]
    exact cp_loop (Lp := fun f i τ => X12_image_7 f i τ) (out := fun τ => some (st τ 399 3 1)) (by decide) (fun f τ => by rw [X12_image_7, if_pos (by decide), gb_1, bd_s, pu_s, bd_s]) (fun f τ i hi => by
      rw [X12_image_7, if_neg (show ¬ (888 : Int32) ≤ nI i from nI_ge (b := 888) (by omega) (by omega)), m_at (by omega), bd_s, au_nI (by omega) (by omega), bd_s, nI_1]) (FUb (by omega))
  unfold lw_51
  rw [hA, bd_s, hB, bd_s]
  refine ⟨_, rfl, ?_⟩
  have f : ∀ c, c ≠ 0 → c ≠ 399 → c ≠ 401 → (c < 51 ∨ 72 ≤ c) → (c < 98 ∨ 111 ≤ c) → st (sr (st (st ρ 0 7 1) 399 0 0) 401 (cpL ((st (st ρ 0 7 1) 399 0 0) 400) ((st (st ρ 0 7 1) 399 0 0) 401) 888)) 399 3 1 c = σ c := by
    intro c c1 c2 c3 c4 c5
    rw [st_n c2, sr_n c3, st_n c2, st_n c1, r4 c (by omega), t3 c (by omega)]
  have f9 : ∀ i, i ≠ 0 → i ≠ 3 → st (sr (st (st ρ 0 7 1) 399 0 0) 401 (cpL ((st (st ρ 0 7 1) 399 0 0) 400) ((st (st ρ 0 7 1) 399 0 0) 401) 888)) 399 3 1 399 i = σ 399 i := by
    intro i i1 i2
    rw [st_at' i2, sr_n (by decide), st_at' i1, st_n (by decide), r4 _ (by omega), t3 _ (by omega)]
  refine ⟨v, L, ⟨W, (R.move fun c c1 c2 => f c (by omega) (by omega) (by omega) (by omega) (by omega)).mono (by omega), by rw [f 400 (by omega) (by omega) (by omega) (by omega) (by omega)]; exact M, KL.move fun c c1 c2 => f c (by omega) (by omega) (by omega) (by omega) (by omega), KT, by rw [f 72 (by omega) (by omega) (by omega) (by omega) (by omega)]; exact Kl⟩, ?_, hR.2.1.move (f 1 (by omega) (by omega) (by omega) (by omega) (by omega)) (f 3 (by omega) (by omega) (by omega) (by omega) (by omega)) (f9 8 (by decide) (by decide)) (f9 12 (by decide) (by decide)) (f 404 (by omega) (by omega) (by omega) (by omega) (by omega)), (hR.2.2.1.move (fun c c1 c2 => f c (by omega) (by omega) (by omega) (by omega) (by omega)) (f9 6 (by decide) (by decide)) (f 403 (by omega) (by omega) (by omega) (by omega) (by omega))).mono (by omega), ?_, ?_⟩
  · unfold BO; rw [f9 15 (by decide) (by decide), f9 17 (by decide) (by decide)]; exact hR.1
  · refine ⟨true, ?_, st_at, fun _ => ⟨v, L, W, ?_, ?_, ?_, KT, ?_⟩, fun i hi => ?_⟩
    · rw [st_n (by decide), sr_n (by decide), st_n (by decide), st_at]; rfl
    · refine SC.mono ?_ (show 1000 * j ≤ 1000 * (j + 1) by omega)
      exact t2.move fun c c1 c2 => by rw [st_n (by omega), sr_n (by omega), st_n (by omega), st_n (by omega), r4 c (by omega)]
    · rw [st_n (by decide), sr_s]
      have : cpL ((st (st ρ 0 7 1) 399 0 0) 400) ((st (st ρ 0 7 1) 399 0 0) 401) 888 = fun i => if i < 888 then σ 400 i else (st (st ρ 0 7 1) 399 0 0) 401 i := by
        funext i
        unfold cpL
        rw [st_n (show (400 : Nat) ≠ 399 by decide), st_n (show (400 : Nat) ≠ 0 by decide), r4 400 (by omega), t3 400 (by omega)]
      rw [this]
      have : (fun i => if i < 888 then σ 400 i else (st (st ρ 0 7 1) 399 0 0) 401 i) = σ 400 := by
        obtain ⟨im, i1, i2, i3, i4⟩ := hR.2.2.2.1
        funext i
        by_cases hi : i < 888
        · rw [if_pos hi]
        · rw [if_neg hi, st_n (by decide), st_n (by decide), r4 401 (by omega), t3 401 (by omega), i4 i (by omega), M.txt i (by omega), KT.1 i (by omega)]
      rw [this]
      exact M
    · exact r2.move fun c c1 c2 => by rw [st_n (by omega), sr_n (by omega), st_n (by omega), st_n (by omega)]
    · rw [st_n (by decide), sr_n (by decide), st_n (by decide), st_n (by decide), r3, t3 72 (by omega)]; exact Kl
    · obtain ⟨im, i1, i2, i3, i4⟩ := hR.2.2.2.1
      rw [st_n (by decide), sr_s]
      unfold cpL
      rw [if_neg (by omega), st_n (by decide), st_n (by decide), r4 401 (by omega), t3 401 (by omega)]
      exact i4 i hi
  · unfold Mis
    rw [f 391 (by omega) (by omega) (by omega) (by omega) (by omega), f 398 (by omega) (by omega) (by omega) (by omega) (by omega)]
    exact hR.2.2.2.2
/-- taken back: of the reference -/
theorem m_undo {k : Nat} (hk : k ≤ 11) (h6 : σ 399 6 = nI (k + 1)) : X12_undo σ = some (nI 1, sr (st (st σ 399 0 0) 399 6 (nI k)) 400 (fun i => if i < 488 then σ 403 (488 * k + i) else σ 400 i)) := by
  obtain ⟨l0, l1, l2, l3⟩ := ln_m
  unfold X12_undo
  rw [pu_s, bd_s, st_at' (by decide), h6, if_neg (show ¬ nI (k + 1) = 0 from fun z => by have := nI_inj (b := 0) (by omega) (by omega) z; omega), pu_s, bd_s, show (1 : Int32) = nI 1 from rfl, show nI (k + 1) - nI 1 = nI k from nI_pred k, show (0 : Int32) = nI 0 from rfl]
  generalize hτ : st (st σ 399 0 (nI 0)) 399 6 (nI k) = τ
  have t6 : τ 399 6 = nI k := by rw [← hτ, st_at]
  have tc : ∀ c, c ≠ 399 → τ c = σ c := fun c hc => by rw [← hτ, st_n hc, st_n hc]
  refine loop_P (L := fun f a i => X12_undo_26 f i a) (P := fun i a => a = sr τ 400 (fun q => if q < i then σ 403 (488 * k + q) else σ 400 q)) (Q := fun r => r = some (nI 1, sr τ 400 (fun i => if i < 488 then σ 403 (488 * k + i) else σ 400 i))) (n := 488) (a := τ) (fun f a hP => ?_) (fun f a i hi hP => Or.inr ?_) (Nat.zero_le _) (FUb (by omega)) ?_
  · rw [X12_undo_26, if_pos (by decide), gb_1, bd_s, hP]; rfl
  · rw [X12_undo_26, if_neg (show ¬ (488 : Int32) ≤ nI i from nI_ge (b := 488) (by omega) (by omega)), hP, sr_n (by decide), t6, show (488 : Int32) = nI 488 from rfl, nI_mul, nI_add, ag_nI (by omega) (by omega), bd_s, au_nI (by omega) (by omega), bd_s, nI_1]
    refine ⟨_, rfl, ?_⟩
    rw [st_sr, sr_sr, sr_s, sr_n (by decide), tc 403 (by decide)]
    congr 1
    funext q
    unfold upd
    dsimp only
    by_cases c : q = i
    · subst c
      rw [if_pos rfl, if_pos (show q < q + 1 by omega)]
    · rw [if_neg c]
      by_cases c2 : q < i
      · rw [if_pos c2, if_pos (by omega)]
      · rw [if_neg c2, if_neg (by omega)]
  · funext c
    unfold sr
    split
    · rename_i hc; rw [hc]; funext q; rw [if_neg (by omega), tc 400 (by decide)]
    · rfl
theorem r_50 (hC : Core (1000 * j) σ v L) (hR : Rest (1000 * j) σ v.txt) : ∃ σ3, lw_50 x1 x2 x3 x4 x5 σ = some (true, σ3) ∧ Inv (j + 1) σ3 := by
  obtain ⟨W, R, M, KL, KT, Kl⟩ := id hC
  obtain ⟨nx, K, q1, q2, q3, q4, q5, q6⟩ := id hR.2.2.1
  cases K with
  | zero =>
    refine road1 (b := nI 0) (σ1 := σ) (σ2 := st σ 399 0 0) ?_ ?_ (inv_th hC hR)
    · unfold X11_undo X2_recall
      rw [bd_s, q3, show ((nI nx + (12 : Int32)) - (1 : Int32)) = nI (nx + 11) from by rw [show (12 : Int32) = nI 12 from rfl, show (1 : Int32) = nI 1 from rfl, nI_add, nI_subN (by omega)]; congr 1, mod12 (by omega), slot_at (by omega), bd_s, q4, if_pos (by decide)]
      rfl
    · unfold X12_undo
      rw [pu_s, bd_s, st_at' (by decide), q5, if_pos (show nI 0 = 0 from rfl)]
      rfl
  | succ k =>
    obtain ⟨u, u1, u2, u3, u4⟩ := q6 k (by omega)
    have hsl : (nx + 12 - (k + 1) + k) % 12 = (nx + 11) % 12 := by omega
    rw [hsl] at u3
    have hlt : (nx + 11) % 12 < 12 := Nat.mod_lt _ (by omega)
    obtain ⟨τ, t1, t2, t3⟩ := e_copy kd9 (gk_ _ hlt) (Or.inl (by omega)) u3 u1
    have hA : X11_undo σ = some (nI 1, st (st τ 111 1 (nI ((nx + 11) % 12))) 111 2 (nI k)) := by
      unfold X11_undo X2_recall
      rw [bd_s, q3, show ((nI nx + (12 : Int32)) - (1 : Int32)) = nI (nx + 11) from by rw [show (12 : Int32) = nI 12 from rfl, show (1 : Int32) = nI 1 from rfl, nI_add, nI_subN (by omega)]; congr 1, mod12 (by omega), slot_at hlt, bd_s, q4, if_neg (show ¬ nI (k + 1) ≤ 0 from nI_nle (by omega) (by omega))]
      simp only
      unfold gk2
      rw [if_pos (gk_ _ hlt), bd_s, t1, bd_s, pu_s, bd_s, pu_s, bd_s, st_at' (by decide), t3 111 (by omega), q4, show (1 : Int32) = nI 1 from rfl, show nI (k + 1) - nI 1 = nI k from nI_pred k]
      rfl
    have f1 : ∀ c, c ≠ 111 → (c < 9 ∨ 30 ≤ c) → st (st τ 111 1 (nI ((nx + 11) % 12))) 111 2 (nI k) c = σ c := fun c c1 c2 => by rw [st_n c1, st_n c1, t3 c (by omega)]
    generalize hσ1 : st (st τ 111 1 (nI ((nx + 11) % 12))) 111 2 (nI k) = σ1 at hA f1
    have hB := m_undo (σ := σ1) (k := k) (by omega) (by rw [f1 399 (by omega) (by omega)]; exact q5)
    refine road1 (Bf := fun τ => X12_undo τ) hA hB ?_
    have g : ∀ c, c ≠ 399 → c ≠ 400 → sr (st (st σ1 399 0 0) 399 6 (nI k)) 400 (fun i => if i < 488 then σ1 403 (488 * k + i) else σ1 400 i) c = σ1 c := fun c c1 c2 => by rw [sr_n c2, st_n c1, st_n c1]
    have g9 : ∀ i, i ≠ 0 → i ≠ 6 → sr (st (st σ1 399 0 0) 399 6 (nI k)) 400 (fun i => if i < 488 then σ1 403 (488 * k + i) else σ1 400 i) 399 i = σ 399 i := fun i i1 i2 => by rw [sr_n (by decide), st_at' i2, st_at' i1, f1 399 (by omega) (by omega)]
    have g6 : sr (st (st σ1 399 0 0) 399 6 (nI k)) 400 (fun i => if i < 488 then σ1 403 (488 * k + i) else σ1 400 i) 399 6 = nI k := by rw [sr_n (by decide), st_at]
    have g4 : sr (st (st σ1 399 0 0) 399 6 (nI k)) 400 (fun i => if i < 488 then σ1 403 (488 * k + i) else σ1 400 i) 400 = fun i => if i < 488 then σ 403 (488 * k + i) else v.txt i := by
      rw [sr_s, f1 403 (by omega) (by omega), f1 400 (by omega) (by omega)]
      funext i
      by_cases hi : i < 488
      · rw [if_pos hi, if_pos hi]
      · rw [if_neg hi, if_neg hi, M.txt i (by omega)]
    generalize sr (st (st σ1 399 0 0) 399 6 (nI k)) 400 (fun i => if i < 488 then σ1 403 (488 * k + i) else σ1 400 i) = σ2 at g g9 g6 g4
    have f : ∀ c, c ≠ 111 → c ≠ 399 → c ≠ 400 → (c < 9 ∨ 30 ≤ c) → σ2 c = σ c := fun c c1 c2 c3 c4 => by rw [g c c2 c3, f1 c c1 c4]
    refine ⟨u, L, ⟨u1, ?_, by rw [g4]; exact u4, KL.move fun c c1 c2 => f c (by omega) (by omega) (by omega) (by omega), by rw [u2]; exact KT, by rw [f 72 (by omega) (by omega) (by omega) (by omega), u2]; exact Kl⟩, ?_, hR.2.1.move (f 1 (by omega) (by omega) (by omega) (by omega)) (f 3 (by omega) (by omega) (by omega) (by omega)) (g9 8 (by decide) (by decide)) (g9 12 (by decide) (by decide)) (f 404 (by omega) (by omega) (by omega) (by omega)), ?_, (hR.2.2.2.1.move (f 0 (by omega) (by omega) (by omega) (by omega)) (fun c hc => f c (by omega) (by omega) (by omega) (by omega)) (g9 3 (by decide) (by decide)) (f 401 (by omega) (by omega) (by omega) (by omega))).mono (by omega), ?_⟩
    · refine SC.mono ?_ (show 1000 * j ≤ 1000 * (j + 1) by omega)
      exact t2.move fun c c1 c2 => by rw [g c (by omega) (by omega), ← hσ1, st_n (by omega), st_n (by omega)]
    · unfold BO; rw [g9 15 (by decide) (by decide), g9 17 (by decide) (by decide)]; exact hR.1
    · refine ⟨(nx + 11) % 12, k, hlt, by omega, ?_, ?_, g6, fun i hi => ?_⟩
      · rw [g 111 (by decide) (by decide), ← hσ1, st_at' (by decide), st_at]
      · rw [g 111 (by decide) (by decide), ← hσ1, st_at]
      · obtain ⟨w, w1, w2, w3, w4⟩ := q6 i (by omega)
        refine ⟨w, w1, by rw [w2, u2], ?_, ?_⟩
        · have hs : ((nx + 11) % 12 + 12 - k + i) % 12 = (nx + 12 - (k + 1) + i) % 12 := by omega
          have hl2 : (nx + 12 - (k + 1) + i) % 12 < 12 := Nat.mod_lt _ (by omega)
          rw [hs]
          generalize (nx + 12 - (k + 1) + i) % 12 = q at *
          exact (w3.move fun c c1 c2 => f c (by omega) (by omega) (by omega) (by omega)).mono (by omega)
        · rw [f 403 (by omega) (by omega) (by omega) (by omega), u2]; exact w4
    · unfold Mis
      rw [f 391 (by omega) (by omega) (by omega) (by omega), f 398 (by omega) (by omega) (by omega) (by omega)]
      exact hR.2.2.2.2
theorem r_52 (hC : Core (1000 * j) σ v L) (hR : Rest (1000 * j) σ v.txt) : ∃ σ3, lw_52 x1 x2 x3 x4 x5 σ = some (true, σ3) ∧ Inv (j + 1) σ3 := by
  obtain ⟨W, R, M, KL, KT, Kl⟩ := id hC
  obtain ⟨nx, K, q1, q2, q3, q4, q5, q6⟩ := id hR.2.2.1
  obtain ⟨im, i1, i2, i3, i4⟩ := id hR.2.2.2.1
  obtain ⟨l0, l1, l2, l3⟩ := ln_m
  cases im with
  | false =>
    refine road1 (b := nI 0) (σ1 := σ) (σ2 := st σ 399 0 0) ?_ ?_ (inv_th hC hR)
    · unfold X11_back
      rw [i1, if_pos (show b2i false = 0 from rfl)]
      rfl
    · unfold X12_back
      rw [pu_s, bd_s, st_at' (by decide), i2, if_pos (show b2i false = 0 from rfl)]
      rfl
  | true =>
    obtain ⟨u, L2, u1, u2, u3, u4, u5, u6⟩ := i3 rfl
    have kd51 : kd 51 = 2 := by decide +kernel
    obtain ⟨τ, t1, t2, t3⟩ := e_copy kd9 kd51 (Or.inl (by decide)) u2 u1
    have K1 : LC τ 98 L2 := u4.move fun c c1 c2 => t3 c (by omega)
    obtain ⟨ρ, r1, r2, r3, r4⟩ := e_copyLaw (C := 72) (D := 98) rfl (by decide +kernel) (Or.inl (by decide)) K1
    have hA : X11_back σ = some (nI 1, st ρ 111 2 0) := by
      unfold X11_back X2_forget
      rw [i1, if_neg (show ¬ b2i true = 0 by decide), t1, bd_s, r1, bd_s, pu_s, bd_s, bd_s, gb_1, bd_s]
      rfl
    have f1 : ∀ c, c ≠ 111 → (c < 9 ∨ 30 ≤ c) → (c < 72 ∨ 85 ≤ c) → st ρ 111 2 0 c = σ c := fun c c1 c2 c3 => by rw [st_n c1, r4 c (by omega), t3 c (by omega)]
    have hB : X12_back (st ρ 111 2 0) = some (nI 1, st (sr (st (st ρ 111 2 0) 399 0 0) 400 (σ 401)) 399 6 0) := by
      unfold X12_back
      rw [pu_s, bd_s, st_at' (by decide), f1 399 (by omega) (by omega) (by omega), i2, if_neg (show ¬ b2i true = 0 by decide), show (0 : Int32) = nI 0 from rfl]
      have := cp_loop (σ := st (st ρ 111 2 0) 399 0 0) (Lp := fun f i τ => X12_back_16 f i τ) (out := fun τ => some (nI 1, st τ 399 6 0)) (k0 := 401) (k1 := 400) (n := 888) (by decide) (fun f τ => by
        show X12_back_16 (f + 1) (nI 888) τ = _
        rw [X12_back_16, if_pos (by decide), pu_s, bd_s, gb_1, bd_s]; rfl) (fun f τ i hi => by
        show X12_back_16 (f + 1) (nI i) τ = _
        rw [X12_back_16, if_neg (show ¬ (888 : Int32) ≤ nI i from nI_ge (b := 888) (by omega) (by omega)), ag_nI (by omega) (by omega), bd_s, m_set (by omega), bd_s, nI_1]) (fuel := FU) (FUb (by omega))
      have e401 : cpL ((st (st ρ 111 2 0) 399 0 0) 401) ((st (st ρ 111 2 0) 399 0 0) 400) 888 = σ 401 := by
        funext i
        unfold cpL
        rw [st_n (show (401 : Nat) ≠ 399 by decide), st_n (show (400 : Nat) ≠ 399 by decide), f1 401 (by omega) (by omega) (by omega), f1 400 (by omega) (by omega) (by omega)]
        by_cases hi : i < 888
        · rw [if_pos hi]
        · rw [if_neg hi, M.txt i (by omega), KT.1 i (by omega), i4 i (by omega)]
      rw [e401] at this
      exact this
    refine road1 (Bf := fun τ => X12_back τ) hA hB ?_
    have g : ∀ c, c ≠ 111 → c ≠ 399 → c ≠ 400 → (c < 9 ∨ 30 ≤ c) → (c < 72 ∨ 85 ≤ c) → st (sr (st (st ρ 111 2 0) 399 0 0) 400 (σ 401)) 399 6 0 c = σ c := fun c c0 c1 c2 c3 c4 => by rw [st_n c1, sr_n c2, st_n c1, f1 c c0 c3 c4]
    have g9 : ∀ i, i ≠ 0 → i ≠ 6 → st (sr (st (st ρ 111 2 0) 399 0 0) 400 (σ 401)) 399 6 0 399 i = σ 399 i := fun i i1 i2 => by rw [st_at' i2, sr_n (by decide), st_at' i1, f1 399 (by omega) (by omega) (by omega)]
    refine ⟨u, L2, ⟨u1, ?_, by rw [st_n (by decide), sr_s]; exact u3, ?_, u5, ?_⟩, ?_, hR.2.1.move (g 1 (by omega) (by omega) (by omega) (by omega) (by omega)) (g 3 (by omega) (by omega) (by omega) (by omega) (by omega)) (g9 8 (by decide) (by decide)) (g9 12 (by decide) (by decide)) (g 404 (by omega) (by omega) (by omega) (by omega) (by omega)), ?_, (hR.2.2.2.1.move (g 0 (by omega) (by omega) (by omega) (by omega) (by omega)) (fun c hc => g c (by omega) (by omega) (by omega) (by omega) (by omega)) (g9 3 (by decide) (by decide)) (g 401 (by omega) (by omega) (by omega) (by omega) (by omega))).mono (by omega), ?_⟩
    · refine SC.mono ?_ (show 1000 * j ≤ 1000 * (j + 1) by omega)
      exact t2.move fun c c1 c2 => by rw [st_n (by omega), sr_n (by omega), st_n (by omega), st_n (by omega), r4 c (by omega)]
    · exact r2.move fun c c1 c2 => by rw [st_n (by omega), sr_n (by omega), st_n (by omega), st_n (by omega)]
    · rw [st_n (by decide), sr_n (by decide), st_n (by decide), st_n (by decide), r3, t3 98 (by omega)]; exact u6
    · unfold BO; rw [g9 15 (by decide) (by decide), g9 17 (by decide) (by decide)]; exact hR.1
    · refine ⟨nx, 0, q1, by omega, ?_, ?_, st_at, fun i hi => absurd hi (by omega)⟩
      · rw [st_n (by decide), sr_n (by decide), st_n (by decide), st_at' (by decide), r4 111 (by omega), t3 111 (by omega)]; exact q3
      · rw [st_n (by decide), sr_n (by decide), st_n (by decide), st_at]; rfl
    · unfold Mis
      rw [g 391 (by omega) (by omega) (by omega) (by omega) (by omega), g 398 (by omega) (by omega) (by omega) (by omega) (by omega)]
      exact hR.2.2.2.2
end ROADS7

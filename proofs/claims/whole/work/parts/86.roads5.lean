/-! the acts -/
section ROADS5
variable {σ σ1 σ2 : Mem} {v u : View} {L : Lw} {j nx K : Nat} {x1 x2 x3 x4 x5 : Int32}
theorem FrB.th (hb : BO σ) (h : FrB K (st σ 399 0 x1) σ2) : FrB K σ σ2 := by
  obtain ⟨a1, a2, a3, a4, a5, a6⟩ := h
  refine ⟨fun c c1 c2 c3 c4 => by rw [a1 c c1 c2 c3 c4, st_n c1], fun i hi => by rw [a2 i hi, st_at' (by omega)], a3, a4, fun i k hi hk => by rw [a5 i k hi hk, st_n (by decide)], fun k hk => by rw [a6 k hk, st_n (by decide)]⟩
theorem rqA (hC : Core (1000 * j) σ v L) (hR : Rest (1000 * j) σ v.txt) {A : Option (Int32 × Mem)} {Bf : Mem → Option (Int32 × Mem)} {r : Int32} (W : WF u) (ht : u.txt = v.txt)
    (hA : ∀ nx K, nx < 12 → K ≤ 12 → σ 111 1 = nI nx → σ 111 2 = nI K → ∃ σ1, A = some (nI 0, st σ1 411 0 r) ∧ FrA nx K (1000 * j) v σ σ1 ∧ SC σ1 9 u (1000 * j + 1000))
    (hB : ∀ ρ K, K ≤ 12 → SM (ρ 400) v → SM ((st ρ 399 0 (nI 0)) 400) v → BO (st ρ 399 0 (nI 0)) → (st ρ 399 0 (nI 0)) 399 6 = nI K → ∃ σ2, Bf ρ = some (r, σ2) ∧ FrB K (st ρ 399 0 (nI 0)) σ2 ∧ SM (σ2 400) u ∧ σ2 399 0 = nI 0) :
    ∃ σ3, (bd2 A fun r1 τ1 => bd2 (Bf τ1) fun r2 τ2 => bd (X12_thrown τ2) fun r3 => if r3 = r1 then (if r1 = 0 then (if (lg_cmp ((τ2 411 0).toInt64) r2.toInt64) = 0 then some (true, τ2) else some (false, τ2)) else some (true, τ2)) else some (false, τ2)) = some (true, σ3) ∧ Inv (j + 1) σ3 := by
  obtain ⟨nx, K, q1, q2, q3, q4, q5, q6⟩ := id hR.2.2.1
  obtain ⟨σ1, a1, a2, a3⟩ := hA nx K q1 q2 q3 q4
  have fA : FrA nx K (1000 * j) v σ (st σ1 411 0 r) := a2.then q1 fun c _ _ _ h => st_n h
  have h400 : (st σ1 411 0 r) 400 = σ 400 := fA.1 400 (by omega) (by omega) (by omega) (by omega) (by omega) (by omega)
  have h399 : (st σ1 411 0 r) 399 = σ 399 := fA.1 399 (by omega) (by omega) (by omega) (by omega) (by omega) (by omega)
  have M1 : SM ((st σ1 411 0 r) 400) v := by rw [h400]; exact hC.2.2.1
  have hb : BO (st σ1 411 0 r) := by unfold BO; rw [h399]; exact hR.1
  obtain ⟨σ2, b1, b2, b3, b4⟩ := hB (st σ1 411 0 r) K q2 M1 (by rw [st_n (by decide)]; exact M1) (BO.th hb) (by rw [st_at' (by decide), h399]; exact q5)
  refine roadI a1 b1 b4 (fun _ => ?_) (act_inv hC hR q1 q2 q6 fA (b2.th hb) W (a3.move fun c c1 c2 => st_n (by omega)) (Nat.le_refl _) b3 ht)
  rw [b2.1 411 (by omega) (by omega) (by omega) (by omega), st_n (by decide), st_at]
theorem rbA (hC : Core (1000 * j) σ v L) (hR : Rest (1000 * j) σ v.txt) {A : Option (Int32 × Mem)} {Bf : Mem → Option (Int32 × Mem)} {r : Bool} (W : WF u) (ht : u.txt = v.txt)
    (hA : ∀ nx K, nx < 12 → K ≤ 12 → σ 111 1 = nI nx → σ 111 2 = nI K → ∃ σ1, A = some (nI 0, st σ1 411 0 (b2i r)) ∧ FrA nx K (1000 * j) v σ σ1 ∧ SC σ1 9 u (1000 * j + 1000))
    (hB : ∀ ρ K, K ≤ 12 → SM (ρ 400) v → SM ((st ρ 399 0 (nI 0)) 400) v → BO (st ρ 399 0 (nI 0)) → (st ρ 399 0 (nI 0)) 399 6 = nI K → ∃ σ2, Bf ρ = some (b2i r, σ2) ∧ FrB K (st ρ 399 0 (nI 0)) σ2 ∧ SM (σ2 400) u ∧ σ2 399 0 = nI 0) :
    ∃ σ3, (bd2 A fun r1 τ1 => bd2 (Bf τ1) fun r2 τ2 => bd (X12_thrown τ2) fun r3 => if r3 = r1 then (if r1 = 0 then (if r2 = 0 then (if (lg_cmp ((τ2 411 0).toInt64) ((0 : Int64))) = 0 then some (true, τ2) else some (false, τ2)) else (if (lg_cmp ((τ2 411 0).toInt64) ((1 : Int64))) = 0 then some (true, τ2) else some (false, τ2))) else some (true, τ2)) else some (false, τ2)) = some (true, σ3) ∧ Inv (j + 1) σ3 := by
  obtain ⟨nx, K, q1, q2, q3, q4, q5, q6⟩ := id hR.2.2.1
  obtain ⟨σ1, a1, a2, a3⟩ := hA nx K q1 q2 q3 q4
  have fA : FrA nx K (1000 * j) v σ (st σ1 411 0 (b2i r)) := a2.then q1 fun c _ _ _ h => st_n h
  have h400 : (st σ1 411 0 (b2i r)) 400 = σ 400 := fA.1 400 (by omega) (by omega) (by omega) (by omega) (by omega) (by omega)
  have h399 : (st σ1 411 0 (b2i r)) 399 = σ 399 := fA.1 399 (by omega) (by omega) (by omega) (by omega) (by omega) (by omega)
  have M1 : SM ((st σ1 411 0 (b2i r)) 400) v := by rw [h400]; exact hC.2.2.1
  have hb : BO (st σ1 411 0 (b2i r)) := by unfold BO; rw [h399]; exact hR.1
  obtain ⟨σ2, b1, b2, b3, b4⟩ := hB (st σ1 411 0 (b2i r)) K q2 M1 (by rw [st_n (by decide)]; exact M1) (BO.th hb) (by rw [st_at' (by decide), h399]; exact q5)
  refine roadB a1 b1 b4 (fun _ => ?_) (act_inv hC hR q1 q2 q6 fA (b2.th hb) W (a3.move fun c c1 c2 => st_n (by omega)) (Nat.le_refl _) b3 ht)
  rw [b2.1 411 (by omega) (by omega) (by omega) (by omega), st_n (by decide), st_at]
theorem m_sets (hb : BO σ) (hK : K ≤ 12) (h6 : σ 399 6 = nI K) {i : Nat} (hi : i < 888) {x : Int32} : ∃ σ2, X12_sets (nI i) x σ = some (σ 400 i, σ2) ∧ FrB K σ σ2 ∧ σ2 400 = upd (σ 400) i x ∧ σ2 399 0 = σ 399 0 := by
  obtain ⟨τ, t1, t2, t3, t4⟩ := m_rem hb hK h6
  unfold X12_sets
  rw [t1, bd_s, m_at hi, bd_s, m_set hi, bd_s, t3]
  exact ⟨_, rfl, t2.then4 fun c hc => st_n hc, by rw [st_s, t3], by rw [st_n (by decide)]; exact t4⟩
theorem r_12 (hC : Core (1000 * j) σ v L) (hR : Rest (1000 * j) σ v.txt) : ∃ σ3, lw_12 x1 x2 x3 x4 x5 σ = some (true, σ3) ∧ Inv (j + 1) σ3 := by
  obtain ⟨W, R, M, KL, KT, Kl⟩ := id hC
  have h9 := W.n9
  have h6 := W.k6
  by_cases c1 : isP v.k x1 = true
  · obtain ⟨w, w1, rfl⟩ := isP_t (by omega) c1
    have go : ∀ o : Option Nat, x2 = oI o → (∀ p, o = some p → p < v.n) → ∃ σ3, lw_12 (nI w) x2 x3 x4 x5 σ = some (true, σ3) ∧ Inv (j + 1) σ3 := by
      intro o ho hp
      subst ho
      have c2 : ¬ oI o = -1 → isP v.n (oI o) = true := by
        intro h
        cases o with
        | none => exact absurd rfl h
        | some p => exact isP_nI (hp p rfl) (by omega)
      refine rqA (u := v.w_hd (fun q => if q = w then o else v.hd q)) hC hR (r := oI (v.hd w)) ((by
    unfold WF
    try simp only [VR]
    exact ⟨W.n9, W.k6, W.texts, W.hour, W.night, W.fog, W.oil, W.dark, W.own, W.one, W.burn, W.sym, W.irr, W.pl, W.tp, W.lt, 
      fun x p hx h => by
          split at h
          · exact hp p h
          · exact W.hd x p hx h, W.like, W.self, W.log, W.rows⟩)) (by simp only [VR]) (fun nx K hn hK h1 h2 => ?_) (fun ρ K hK M1 M2 hb h6 => ?_)
      · obtain ⟨τ, t1, t2, t3, t4⟩ := e_rem hC hn hK h1 h2
        have h22 : ln (22 + 1) = 6 := by decide +kernel
        have ex : X11_heads (nI w) (oI o) σ = X11_heads_15 (nI w) (oI o) σ := by
          unfold X11_heads
          rw [e_needWalker R, if_pos c1, bdx_l]
          by_cases c : oI o = -1
          · rw [if_pos c]
          · rw [if_neg c, e_needPane R, if_pos (c2 c), bdx_l]
        unfold L_heads
        rw [ex]
        unfold X11_heads_15
        rw [t1, bd_s, show X6_get τ 22 (nI w) = _ from g_hd kd9 W t3 w1, bd_s, e_set (by rw [h22]; omega) (by rw [h22]; decide), bd_s]
        exact ⟨_, rfl, t2.then hn fun c c1 c2 c3 c4 => st_n (by omega), (t3.s_hd w o).mono (by omega)⟩
      · obtain ⟨τ, t1, t2, t3, t4⟩ := m_sets hb hK h6 (i := 128 + 4 * w + 2) (x := oI o) (by omega)
        have ex : X12_heads (nI w) (oI o) ρ = X12_heads_27 (nI w) (oI o) 0 ρ := by
          unfold X12_heads X12_heads_26
          rw [m_isWalker W M1, c1, bd_s, if_neg (show ¬ b2i true = 0 by decide)]
          by_cases c : oI o = -1
          · rw [if_pos c]
          · rw [if_neg c, m_isPane W M1, c2 c, bd_s, if_neg (show ¬ b2i true = 0 by decide)]
        rw [ex]
        unfold X12_heads_27
        rw [pu_s, bd_s, st_at, if_pos (by decide), show (2 : Int32) = nI 2 from rfl, ixU, show st ρ 399 0 0 = st ρ 399 0 (nI 0) from rfl, t1, bd2_s, M2.hd w w1]
        refine ⟨τ, rfl, t2, ?_, by rw [t4, st_at]⟩
        rw [t3]
        exact M2.s_hd h9 W.k6 W.log w1 o
    by_cases d : x2 = -1
    · exact go none d (fun p h => by cases h)
    · by_cases c2 : isP v.n x2 = true
      · obtain ⟨p, p1, rfl⟩ := isP_t (by omega) c2
        exact go (some p) rfl (fun q h => by cases h; exact p1)
      · rw [Bool.not_eq_true] at c2
        refine rqT hC hR (k := nI 1) (r := nI 0) n0 ?_ ?_
        · unfold L_heads X11_heads
          rw [e_needWalker R, if_pos c1, bdx_l, if_neg d, e_needPane R, c2, if_neg (by decide), bdx_r, bdx2_r]
          rfl
        · unfold X12_heads X12_heads_22 X12_heads_27
          rw [m_isWalker W M, c1, bd_s, if_neg (show ¬ b2i true = 0 by decide), if_neg d, m_isPane W M, c2, bd_s, if_pos (show b2i false = 0 from rfl), pu_s, bd_s, st_at, if_neg (by decide)]
          rfl
  · rw [Bool.not_eq_true] at c1
    refine rqT hC hR (k := nI 1) (r := nI 0) n0 ?_ ?_
    · unfold L_heads X11_heads
      rw [e_needWalker R, c1, if_neg (by decide), bdx_r, bdx2_r]
      rfl
    · unfold X12_heads X12_heads_22 X12_heads_27
      rw [m_isWalker W M, c1, bd_s, if_pos (show b2i false = 0 from rfl), pu_s, bd_s, st_at, if_neg (by decide)]
      rfl
theorem cap99 {a b : Nat} (ha : a ≤ 99) (hb : b ≤ 99) : (if (99 : Int32) < nI (a + b) then (99 : Int32) else nI (a + b)) = nI (min 99 (a + b)) := by
  by_cases c : 99 < a + b
  · rw [if_pos (show (99 : Int32) < nI (a + b) from nI_lt (a := 99) c (by omega)), Nat.min_eq_left (by omega)]; rfl
  · rw [if_neg (show ¬ (99 : Int32) < nI (a + b) from nI_nlt (a := 99) (by omega) (by omega)), Nat.min_eq_right (by omega)]
theorem r_15 (hC : Core (1000 * j) σ v L) (hR : Rest (1000 * j) σ v.txt) : ∃ σ3, lw_15 x1 x2 x3 x4 x5 σ = some (true, σ3) ∧ Inv (j + 1) σ3 := by
  obtain ⟨W, R, M, KL, KT, Kl⟩ := id hC
  have h9 := W.n9
  by_cases c1 : isP v.n x1 = true
  · obtain ⟨p, p1, rfl⟩ := isP_t (by omega) c1
    by_cases c2 : isN (nI 1) (nI 99) x2 = true
    · obtain ⟨n, hn1, hn, rfl⟩ := isN_t (by omega) (by omega) c2
      have ho := W.oil p p1
      refine rqA (u := v.w_oil (fun q => if q = p then min 99 (v.oil p + n) else v.oil q)) hC hR (r := nI (min 99 (v.oil p + n))) ((by
    unfold WF
    try simp only [VR]
    exact ⟨W.n9, W.k6, W.texts, W.hour, W.night, W.fog, 
      fun q hq => by
          split
          · omega
          · exact W.oil q hq, W.dark, W.own, W.one, 
      fun q hq h => by
          have := W.burn q hq h
          split
          · rename_i z; rw [z] at this; omega
          · exact this, W.sym, W.irr, W.pl, W.tp, W.lt, W.hd, W.like, W.self, W.log, W.rows⟩)) (by simp only [VR]) (fun nx K hn hK h1 h2 => ?_) (fun ρ K hK M1 M2 hb h6 => ?_)
      · obtain ⟨τ, t1, t2, t3, t4⟩ := e_rem hC hn hK h1 h2
        have h22 : ln (10 + 1) = 9 := by decide +kernel
        have R2 := t3.s_oil p (min 99 (v.oil p + n))
        unfold L_oil X11_oil
        rw [e_needPane R, if_pos c1, bdx_l, e_needNumber, if_pos (show isN 1 99 _ = true from c2), bdx_l, t1, bd_s, show X6_get τ 10 (nI p) = _ from g_oil kd9 W t3 p1, bd_s, nI_add, cap99 ho (by omega), e_set (by rw [h22]; omega) (by rw [h22]; decide), bd_s, e_get (by rw [h22]; omega) (by rw [h22]; decide), st_at, bd_s]
        exact ⟨_, rfl, t2.then hn fun c c1 c2 c3 c4 => st_n (by omega), R2.mono (by omega)⟩
      · obtain ⟨τ, t1, t2, t3, t4⟩ := m_sets hb hK h6 (i := 11 + 4 * p) (x := nI (min 99 (v.oil p + n))) (by omega)
        have ix : ((11 : Int32) + ((4 : Int32) * nI p)) + (0 : Int32) = nI (11 + 4 * p) := by
          rw [show (11 : Int32) = nI 11 from rfl, show (4 : Int32) = nI 4 from rfl, show (0 : Int32) = nI 0 from rfl, nI_mul, nI_add, nI_add]; rfl
        have M3 : SM (τ 400) (v.w_oil (fun q => if q = p then min 99 (v.oil p + n) else v.oil q)) := by
          rw [t3]
          exact M2.s_oil h9 W.k6 W.log p1 _
        unfold X12_oil X12_oil_28
        rw [m_isPane W M1, c1, bd_s, if_neg (show ¬ b2i true = 0 by decide), m_isN, show isN 1 99 (nI n) = true from c2, bd_s, if_neg (show ¬ b2i true = 0 by decide), pu_s, bd_s, st_at, if_pos (by decide), ix, show st ρ 399 0 0 = st ρ 399 0 (nI 0) from rfl, show X12_of (st ρ 399 0 (nI 0)) (nI p) 0 = _ from o_oil W M2 p1, bd_s, nI_add, show (99 : Int32) = nI 99 from rfl, m_lesser (by omega) (by omega), bd_s, t1, bd2_s]
        have : X12_of τ (nI p) 0 = some (nI (min 99 (v.oil p + n))) := by
          have W2 : WF (v.w_oil (fun q => if q = p then min 99 (v.oil p + n) else v.oil q)) := (by
    unfold WF
    try simp only [VR]
    exact ⟨W.n9, W.k6, W.texts, W.hour, W.night, W.fog, 
      fun q hq => by
              split
              · omega
              · exact W.oil q hq, W.dark, W.own, W.one, 
      fun q hq h => by
              have := W.burn q hq h
              split
              · rename_i z; rw [z] at this; omega
              · exact this, W.sym, W.irr, W.pl, W.tp, W.lt, W.hd, W.like, W.self, W.log, W.rows⟩)
          have := o_oil W2 M3 (p := p) (by simp only [VR]; exact p1)
          simp only [VR, if_true] at this
          exact this
        rw [this, bd_s]
        exact ⟨τ, rfl, t2, M3, by rw [t4, st_at]⟩
    · rw [Bool.not_eq_true] at c2
      refine rqT hC hR (k := nI 2) (r := nI 0) n2 ?_ ?_
      · unfold L_oil X11_oil
        rw [e_needPane R, if_pos c1, bdx_l, e_needNumber, show isN 1 99 x2 = false from c2, if_neg (by decide), bdx_r, bdx2_r]
        rfl
      · unfold X12_oil X12_oil_28
        rw [m_isPane W M, c1, bd_s, if_neg (show ¬ b2i true = 0 by decide), m_isN, show isN 1 99 x2 = false from c2, bd_s, if_pos (show b2i false = 0 from rfl), pu_s, bd_s, st_at, if_neg (by decide)]
        rfl
  · rw [Bool.not_eq_true] at c1
    refine rqT hC hR (k := nI 1) (r := nI 0) n0 ?_ ?_
    · unfold L_oil X11_oil
      rw [e_needPane R, c1, if_neg (by decide), bdx_r, bdx2_r]
      rfl
    · unfold X12_oil X12_oil_28
      rw [m_isPane W M, c1, bd_s, if_pos (show b2i false = 0 from rfl), pu_s, bd_s, st_at, if_neg (by decide)]
      rfl
theorem r_16 (hC : Core (1000 * j) σ v L) (hR : Rest (1000 * j) σ v.txt) : ∃ σ3, lw_16 x1 x2 x3 x4 x5 σ = some (true, σ3) ∧ Inv (j + 1) σ3 := by
  obtain ⟨W, R, M, KL, KT, Kl⟩ := id hC
  have h9 := W.n9
  have k6 := W.k6
  by_cases c1 : isP v.k x1 = true
  · obtain ⟨w, w1, rfl⟩ := isP_t (by omega) c1
    by_cases c2 : isN (nI 1) (nI 99) x2 = true
    · obtain ⟨n, hn1, hn, rfl⟩ := isN_t (by omega) (by omega) c2
      have ho := W.tp w w1
      have W2 : WF (v.w_tp (fun q => if q = w then min 99 (v.tp w + n) else v.tp q)) := (by
    unfold WF
    try simp only [VR]
    exact ⟨W.n9, W.k6, W.texts, W.hour, W.night, W.fog, W.oil, W.dark, W.own, W.one, W.burn, W.sym, W.irr, W.pl, 
      fun q hq => by
          split
          · omega
          · exact W.tp q hq, W.lt, W.hd, W.like, W.self, W.log, W.rows⟩)
      refine rqA (u := v.w_tp (fun q => if q = w then min 99 (v.tp w + n) else v.tp q)) hC hR (r := nI (min 99 (v.tp w + n))) W2 (by simp only [VR]) (fun nx K hn hK h1 h2 => ?_) (fun ρ K hK M1 M2 hb h6 => ?_)
      · obtain ⟨τ, t1, t2, t3, t4⟩ := e_rem hC hn hK h1 h2
        have h22 : ln (20 + 1) = 6 := by decide +kernel
        have R2 := t3.s_tp w (min 99 (v.tp w + n))
        unfold L_taper X11_taper
        rw [e_needWalker R, if_pos c1, bdx_l, e_needNumber, if_pos (show isN 1 99 _ = true from c2), bdx_l, t1, bd_s, show X6_get τ 20 (nI w) = _ from g_tp kd9 W t3 w1, bd_s, nI_add, cap99 ho (by omega), e_set (by rw [h22]; omega) (by rw [h22]; decide), bd_s, e_get (by rw [h22]; omega) (by rw [h22]; decide), st_at, bd_s]
        exact ⟨_, rfl, t2.then hn fun c c1 c2 c3 c4 => st_n (by omega), R2.mono (by omega)⟩
      · obtain ⟨τ, t1, t2, t3, t4⟩ := m_sets hb hK h6 (i := 128 + 4 * w + 1) (x := nI (min 99 (v.tp w + n))) (by omega)
        have M3 : SM (τ 400) (v.w_tp (fun q => if q = w then min 99 (v.tp w + n) else v.tp q)) := by
          rw [t3]
          exact M2.s_tp h9 W.k6 W.log w1 _
        have e1 : X12_ofWalker (st ρ 399 0 (nI 0)) (nI w) 1 = some (nI (v.tp w)) := o_tp W M2 w1
        have e2 : X12_ofWalker τ (nI w) 1 = some (nI (min 99 (v.tp w + n))) := by
          have := o_tp W2 M3 (show w < _ by simp only [VR]; exact w1)
          simp only [VR, if_true] at this
          exact this
        have ix : ((128 : Int32) + ((4 : Int32) * nI w)) + (1 : Int32) = nI (128 + 4 * w + 1) := ixU w 1
        unfold X12_taper X12_taper_28
        rw [m_isWalker W M1, c1, bd_s, if_neg (show ¬ b2i true = 0 by decide), m_isN, show isN 1 99 (nI n) = true from c2, bd_s, if_neg (show ¬ b2i true = 0 by decide), pu_s, bd_s, st_at, if_pos (by decide), ix, show st ρ 399 0 0 = st ρ 399 0 (nI 0) from rfl, e1, bd_s, nI_add, show (99 : Int32) = nI 99 from rfl, m_lesser (by omega) (by omega), bd_s, t1, bd2_s, e2, bd_s]
        exact ⟨τ, rfl, t2, M3, by rw [t4, st_at]⟩
    · rw [Bool.not_eq_true] at c2
      refine rqT hC hR (k := nI 2) (r := nI 0) n2 ?_ ?_
      · unfold L_taper X11_taper
        rw [e_needWalker R, if_pos c1, bdx_l, e_needNumber, show isN 1 99 x2 = false from c2, if_neg (by decide), bdx_r, bdx2_r]
        rfl
      · unfold X12_taper X12_taper_28
        rw [m_isWalker W M, c1, bd_s, if_neg (show ¬ b2i true = 0 by decide), m_isN, show isN 1 99 x2 = false from c2, bd_s, if_pos (show b2i false = 0 from rfl), pu_s, bd_s, st_at, if_neg (by decide)]
        rfl
  · rw [Bool.not_eq_true] at c1
    refine rqT hC hR (k := nI 1) (r := nI 0) n0 ?_ ?_
    · unfold L_taper X11_taper
      rw [e_needWalker R, c1, if_neg (by decide), bdx_r, bdx2_r]
      rfl
    · unfold X12_taper X12_taper_28
      rw [m_isWalker W M, c1, bd_s, if_pos (show b2i false = 0 from rfl), pu_s, bd_s, st_at, if_neg (by decide)]
      rfl
theorem r_17 (hC : Core (1000 * j) σ v L) (hR : Rest (1000 * j) σ v.txt) : ∃ σ3, lw_17 x1 x2 x3 x4 x5 σ = some (true, σ3) ∧ Inv (j + 1) σ3 := by
  obtain ⟨W, R, M, KL, KT, Kl⟩ := id hC
  have h9 := W.n9
  have k6 := W.k6
  by_cases c1 : isP v.k x1 = true
  · by_cases c2 : isP v.k x2 = true
    · obtain ⟨w, w1, rfl⟩ := isP_t (by omega) c1
      obtain ⟨o, o1, rfl⟩ := isP_t (by omega) c2
      by_cases c3 : w = o
      · subst c3
        refine rqT hC hR (k := nI 2) (r := nI 0) n2 ?_ ?_
        · unfold L_like X11_like X11_needTwoWalkers
          rw [e_needWalker R, if_pos c1, bdx_l, bdx_l, if_pos rfl, bdx_r, bdx2_r]
          rfl
        · unfold X12_like X12_like_36 X12_like_41
          rw [m_isWalker W M, c1, bd_s, if_neg (show ¬ b2i true = 0 by decide), bd_s, if_neg (show ¬ b2i true = 0 by decide), if_pos rfl, pu_s, bd_s, st_at, if_neg (by decide)]
          rfl
      · have c3' : ¬ nI w = nI o := fun z => c3 (nI_inj (by omega) (by omega) z)
        by_cases c4 : isN (nI 0) (nI 9) x3 = true
        · obtain ⟨n, -, hn, rfl⟩ := isN_t (by omega) (by omega) c4
          have W2 : WF (v.w_like (fun w2 o2 => if w2 = w ∧ o2 = o then n else v.like w2 o2)) := (by
    unfold WF
    try simp only [VR]
    exact ⟨W.n9, W.k6, W.texts, W.hour, W.night, W.fog, W.oil, W.dark, W.own, W.one, W.burn, W.sym, W.irr, W.pl, W.tp, W.lt, W.hd, 
      fun a b ha hb => by
              split
              · exact hn
              · exact W.like a b ha hb, 
      fun a ha => by
              rw [if_neg (by rintro ⟨z1, z2⟩; exact c3 (z1.symm.trans z2))]
              exact W.self a ha, W.log, W.rows⟩)
          refine rqA (u := v.w_like (fun w2 o2 => if w2 = w ∧ o2 = o then n else v.like w2 o2)) hC hR (r := nI (v.like w o)) W2 (by simp only [VR]) (fun nx K hn hK h1 h2 => ?_) (fun ρ K hK M1 M2 hb h6 => ?_)
          · obtain ⟨τ, t1, t2, t3, t4⟩ := e_rem hC hn hK h1 h2
            have R2 := SC.s_like W t3 w1 o1 n
            unfold L_like X11_like X11_needTwoWalkers
            rw [e_needWalker R, if_pos c1, bdx_l, e_needWalker R, if_pos c2, bdx_l, if_neg c3', bdx_l, e_needNumber, if_pos (show isN 0 9 _ = true from c4), bdx_l, t1, bd_s, e_likesOf kd9 W t3 w1 o1 c3, bd_s, e_setLikes kd9 W w1 o1, bd_s]
            exact ⟨_, rfl, t2.then hn fun c c1 c2 c3 c4 => st_n (by omega), R2.mono (by omega)⟩
          · obtain ⟨τ, t1, t2, t3, t4⟩ := m_sets hb hK h6 (i := 152 + 6 * w + o) (x := nI n) (by omega)
            have M3 : SM (τ 400) (v.w_like (fun w2 o2 => if w2 = w ∧ o2 = o then n else v.like w2 o2)) := by
              rw [t3]
              exact M2.s_like h9 W.k6 W.log w1 o1 n
            unfold X12_like X12_like_41
            rw [m_isWalker W M1, c1, bd_s, if_neg (show ¬ b2i true = 0 by decide), m_isWalker W M1, c2, bd_s, if_neg (show ¬ b2i true = 0 by decide), if_neg c3', m_isN, show isN 0 9 (nI n) = true from c4, bd_s, if_neg (show ¬ b2i true = 0 by decide), pu_s, bd_s, st_at, if_pos (by decide), ixL, show st ρ 399 0 0 = st ρ 399 0 (nI 0) from rfl, t1, bd2_s, M2.like w o w1 o1]
            exact ⟨τ, rfl, t2, M3, by rw [t4, st_at]⟩
        · rw [Bool.not_eq_true] at c4
          refine rqT hC hR (k := nI 2) (r := nI 0) n2 ?_ ?_
          · unfold L_like X11_like X11_needTwoWalkers
            rw [e_needWalker R, if_pos c1, bdx_l, e_needWalker R, if_pos c2, bdx_l, if_neg c3', bdx_l, e_needNumber, show isN 0 9 x3 = false from c4, if_neg (by decide), bdx_r, bdx2_r]
            rfl
          · unfold X12_like X12_like_36 X12_like_41
            rw [m_isWalker W M, c1, bd_s, if_neg (show ¬ b2i true = 0 by decide), m_isWalker W M, c2, bd_s, if_neg (show ¬ b2i true = 0 by decide), if_neg c3', m_isN, show isN 0 9 x3 = false from c4, bd_s, if_pos (show b2i false = 0 from rfl), pu_s, bd_s, st_at, if_neg (by decide)]
            rfl
    · rw [Bool.not_eq_true] at c2
      refine rqT hC hR (k := nI 1) (r := nI 0) n0 ?_ ?_
      · unfold L_like X11_like X11_needTwoWalkers
        rw [e_needWalker R, if_pos c1, bdx_l, e_needWalker R, c2, if_neg (by decide), bdx_r, bdx_r, bdx2_r]
        rfl
      · unfold X12_like X12_like_17 X12_like_41
        rw [m_isWalker W M, c1, bd_s, if_neg (show ¬ b2i true = 0 by decide), m_isWalker W M, c2, bd_s, if_pos (show b2i false = 0 from rfl), pu_s, bd_s, st_at, if_neg (by decide)]
        rfl
  · rw [Bool.not_eq_true] at c1
    refine rqT hC hR (k := nI 1) (r := nI 0) n0 ?_ ?_
    · unfold L_like X11_like X11_needTwoWalkers
      rw [e_needWalker R, c1, if_neg (by decide), bdx_r, bdx_r, bdx2_r]
      rfl
    · unfold X12_like X12_like_17 X12_like_41
      rw [m_isWalker W M, c1, bd_s, if_pos (show b2i false = 0 from rfl), pu_s, bd_s, st_at, if_neg (by decide)]
      rfl
end ROADS5

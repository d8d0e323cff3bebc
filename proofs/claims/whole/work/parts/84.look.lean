/-! looking ahead; the log; the seed -/
section LOOKS
variable {σ σ1 : Mem} {v : View} {L : Lw} {j : Nat} {x1 x2 x3 x4 x5 : Int32}
theorem e_away (hj : j < 512) (hC : Core (1000 * j) σ v L) (hM : Mis σ) {dr : Bool} {n : Nat} (hn : n ≤ 60) {sd : Int32} : ∃ σ2, X0_after 9 72 (nI n) (b2i dr) sd σ = some σ2 ∧ SC σ2 366 (((v.w_seed (sd)) : View).after L dr n).1 (1000 * j + 900) ∧ FrC σ σ2 ∧ ∀ c, c < 366 ∨ 387 ≤ c → c ≠ 82 → c ≠ 84 → σ2 c = σ c := by
  obtain ⟨W, R, M, K, -⟩ := hC
  obtain ⟨σ2, q1, q2, q3, q4⟩ := e_after W R K (by omega) (dr := dr) hn (sd := sd)
  exact ⟨σ2, q1, q2, FrC.of hM fun c h1 h2 h3 h4 h5 => q4 c h3 h1 h2, q4⟩
theorem m_away (W : WF v) (M : SM (σ 400) v) (K : LT v.txt L) (hb : BO σ) {dr : Bool} {n : Nat} (hn : n ≤ 60) : ∃ τ ρ ρ2, X12_putsAside σ = some τ ∧ X12_goes (nI n) (b2i dr) τ = some ((v.after L dr n).2, ρ) ∧ SM (ρ 400) (v.after L dr n).1 ∧ X12_comesBack ρ = some ρ2 ∧ Ok σ ρ2 := by
  obtain ⟨a1, a2⟩ := aside_M hb
  generalize hτ : sr σ 402 (cpL (σ 400) (σ 402) 488) = τ at a1 a2
  obtain ⟨ρ, r1, r2, r3⟩ := m_goes (σ := τ) W (by rw [a2]; exact M) K a1.2.2 (dr := dr) hn
  have h402 : ∀ i, i < 488 → ρ 402 i = σ 400 i := fun i hi => by rw [r3.1 402 (by decide) (by decide) (by decide), ← hτ]; exact aside_402 hi
  have hback := m_back M h402 r2 (go_i W n).2.2.2.1
  refine ⟨τ, ρ, _, by rw [m_putsAside, hτ], r1, r2, hback, (a1.trans r3.frM).sr4, by rw [sr_s], ?_⟩
  rw [sr_n (by decide), r3.2.1 0 (by omega), ← hτ, sr_n (by decide)]
theorem seed_id : (v.w_seed v.seed) = v := View.id_seed rfl
theorem r_44 (hj : j < 512) (hC : Core (1000 * j) σ v L) (hR : Rest (1000 * j) σ v.txt) : ∃ σ3, lw_44 x1 x2 x3 x4 x5 σ = some (true, σ3) ∧ Inv (j + 1) σ3 := by
  obtain ⟨W, R, M, K, KT, Kl⟩ := id hC
  have hB := kd9
  have h9 := W.n9
  have h6 := W.k6
  by_cases c1 : isP v.n x1 = true
  · obtain ⟨p, p1, rfl⟩ := isP_t (by omega) c1
    by_cases c2 : isN (nI 0) (nI 60) x2 = true
    · obtain ⟨n, -, hn, rfl⟩ := isN_t (by omega) (by omega) c2
      obtain ⟨Wn, Kn⟩ := go_i (L := L) (dr := false) W n
      have pn : p < (v.after L false n).1.n := by rw [Kn.1]; exact p1
      by_cases c3 : isN (nI 0) (nI 2) x3 = true
      · obtain ⟨k, -, k2, rfl⟩ := isN_t (by omega) (by omega) c3
        obtain ⟨τ, t1, t2, t3, -⟩ := e_away hj hC hR.2.2.2.2 (dr := false) hn (sd := v.seed)
        rw [seed_id] at t2
        have r1 : ∀ o, X11_ahead (nI p) (nI n) (nI k) σ = o → L_ahead (nI p) (nI n) (nI k) σ = bdx2 o (fun v σ1 => some (0, st σ1 411 0 v)) (fun x9 σ1 => hx3 1 2 4 x9 σ1) := fun o h => by unfold L_ahead; rw [h]
        have pm : ∀ ρ : Mem, SM (ρ 400) v → X12_ahead (nI p) (nI n) (nI k) ρ = X12_ahead_41 (nI p) (nI n) (nI k) 0 ρ := by
          intro ρ M1
          unfold X12_ahead
          rw [m_isPane W M1, c1, bd_s, if_neg (show ¬ b2i true = 0 by decide), m_isN, show isN 0 60 (nI n) = true from c2, bd_s, if_neg (show ¬ b2i true = 0 by decide), m_isN, show isN 0 2 (nI k) = true from c3, bd_s, if_neg (show ¬ b2i true = 0 by decide)]
        have hA : X11_ahead (nI p) (nI n) (nI k) σ = if nI k = 0 then some (.inl (nI ((v.after L false n).1.oil p)), τ) else if nI k = 1 then some (.inl (b2i ((v.after L false n).1.burn p)), τ) else some (.inl (nI ((v.after L false n).1.dark p)), τ) := by
          unfold X11_ahead
          rw [e_needPane R, if_pos c1, bdx_l, e_needNumber, if_pos (show isN 0 60 _ = true from c2), bdx_l, if_neg (nI_pos (by omega)), if_pos (show nI k ≤ 2 from nI_le (b := 2) (by omega) (by omega)), R.seed, show (0 : Int32) = b2i false from rfl, t1, bd_s, show b2i false = 0 from rfl, show X6_get τ 367 (nI p) = _ from g_oil kd366 Wn t2 pn, bd_s, e_isBurning Wn t2 pn, bd_s, show X6_get τ 371 (nI p) = _ from g_dark kd366 Wn t2 pn, bd_s]
          cases (v.after L false n).1.burn p <;> rfl
        refine rqM (σ1 := τ) hC hR (r := if nI k = 0 then nI ((v.after L false n).1.oil p) else if nI k = 1 then b2i ((v.after L false n).1.burn p) else nI ((v.after L false n).1.dark p)) t3 ?_ (fun ρ2 hρ M1 M2 hb => ?_)
        · rw [r1 _ hA]
          by_cases d0 : nI k = 0
          · rw [if_pos d0, if_pos d0]; rfl
          · by_cases d1 : nI k = 1
            · rw [if_neg d0, if_pos d1, if_neg d0, if_pos d1]; rfl
            · rw [if_neg d0, if_neg d1, if_neg d0, if_neg d1]; rfl
        · obtain ⟨τ2, ρ3, ρ4, u1, u2, u3, u4, u5⟩ := m_away W M2 KT hb (dr := false) hn
          rw [show b2i false = (0 : Int32) from rfl] at u2
          rw [pm ρ2 M1]
          unfold X12_ahead_41 X12_ahead_85
          rw [pu_s, bd_s, st_at, if_pos (by decide), show st ρ2 399 0 0 = st ρ2 399 0 (nI 0) from rfl, u1, bd_s, u2, bd2_s, u4]
          rw [show X12_of ρ3 (nI p) 0 = _ from o_oil Wn u3 pn, show X12_of ρ3 (nI p) 1 = _ from o_burn Wn u3 pn, show X12_of ρ3 (nI p) 3 = _ from o_dark Wn u3 pn]
          refine ⟨ρ4, ?_, u5⟩
          by_cases d0 : nI k = 0
          · rw [if_pos d0, if_pos d0]; rfl
          · by_cases d1 : nI k = 1
            · rw [if_neg d0, if_pos d1, if_neg d0, if_pos d1]; rfl
            · rw [if_neg d0, if_neg d1, if_neg d0, if_neg d1]; rfl
      · rw [Bool.not_eq_true] at c3
        refine rqT hC hR (k := nI 3) (r := nI 0) n3 ?_ ?_
        · unfold L_ahead X11_ahead X11_ahead_21
          rw [e_needPane R, if_pos c1, bdx_l, e_needNumber, if_pos (show isN 0 60 _ = true from c2), bdx_l]
          by_cases d0 : x3 < 0
          · rw [if_pos d0]; rfl
          · have d2 : ¬ x3 ≤ 2 := by
              intro d2
              unfold isN at c3
              rw [decide_eq_true (show nI 0 ≤ x3 from Int32.not_lt.mp d0), decide_eq_true (show x3 ≤ nI 2 from d2)] at c3
              cases c3
            rw [if_neg d0, if_neg d2]; rfl
        · unfold X12_ahead X12_ahead_41
          rw [m_isPane W M, c1, bd_s, if_neg (show ¬ b2i true = 0 by decide), m_isN, show isN 0 60 (nI n) = true from c2, bd_s, if_neg (show ¬ b2i true = 0 by decide), m_isN, show isN 0 2 x3 = false from c3, bd_s, if_pos (show b2i false = 0 from rfl), pu_s, bd_s, st_at, if_neg (by decide)]
          rfl
    · rw [Bool.not_eq_true] at c2
      refine rqT hC hR (k := nI 2) (r := nI 0) n2 ?_ ?_
      · unfold L_ahead X11_ahead
        rw [e_needPane R, if_pos c1, bdx_l, e_needNumber, show isN 0 60 x2 = false from c2, if_neg (by decide), bdx_r, bdx2_r]
        rfl
      · unfold X12_ahead X12_ahead_41
        rw [m_isPane W M, c1, bd_s, if_neg (show ¬ b2i true = 0 by decide), m_isN, show isN 0 60 x2 = false from c2, bd_s, if_pos (show b2i false = 0 from rfl), pu_s, bd_s, st_at, if_neg (by decide)]
        rfl
  · rw [Bool.not_eq_true] at c1
    refine rqT hC hR (k := nI 1) (r := nI 0) n0 ?_ ?_
    · unfold L_ahead X11_ahead
      rw [e_needPane R, c1, if_neg (by decide), bdx_r, bdx2_r]
      rfl
    · unfold X12_ahead X12_ahead_41
      rw [m_isPane W M, c1, bd_s, if_pos (show b2i false = 0 from rfl), pu_s, bd_s, st_at, if_neg (by decide)]
      rfl
theorem c_45 (hj : j < 512) (hC : Core (1000 * j) σ v L) (hR : Rest (1000 * j) σ v.txt) : ∀ y2 : Int32, ∃ σ3, (bd2 (L_trial x1 y2 σ) fun r1 τ1 => bd2 (X12_trial x1 y2 τ1) fun r2 τ2 => bd (X12_thrown τ2) fun r3 => if r3 = r1 then (if r1 = 0 then (if (lg_cmp ((τ2 411 0).toInt64) r2.toInt64) = 0 then some (true, τ2) else some (false, τ2)) else some (true, τ2)) else some (false, τ2)) = some (true, σ3) ∧ Inv (j + 1) σ3 := by
  intro y2
  obtain ⟨W, R, M, K, KT, Kl⟩ := id hC
  have hB := kd9
  have h9 := W.n9
  have h6 := W.k6
  by_cases c2 : isN (nI 0) (nI 60) x1 = true
  · obtain ⟨n, -, hn, rfl⟩ := isN_t (by omega) (by omega) c2
    obtain ⟨Wn, Kn⟩ := go_i (L := L) (dr := true) W n
    obtain ⟨τ, t1, t2, t3, -⟩ := e_away hj hC hR.2.2.2.2 (dr := true) hn (sd := v.seed)
    rw [seed_id] at t2
    refine rqM (Bf := fun τ => X12_trial (nI n) y2 τ) (σ1 := τ) hC hR (r := if y2 = 0 then mkB (v.after L true n).1.burn (v.after L true n).1.n else (v.after L true n).1.oilAll) t3 ?_ (fun ρ2 hρ M1 M2 hb => ?_)
    · unfold L_trial X11_trial
      rw [e_needNumber, if_pos (show isN 0 60 _ = true from c2), bdx_l, R.seed, show (1 : Int32) = b2i true from rfl, t1, bd_s, e_oilOfAll kd366 Wn t2, bd_s, show τ 366 8 = _ from t2.burn]
      by_cases d : y2 = 0
      · rw [if_pos d, if_pos d]; rfl
      · rw [if_neg d, if_neg d]; rfl
    · obtain ⟨τ2, ρ3, ρ4, u1, u2, u3, u4, u5⟩ := m_away W M2 KT hb (dr := true) hn
      rw [show b2i true = (1 : Int32) from rfl] at u2
      unfold X12_trial X12_trial_16 X12_trial_54
      rw [m_isN, show isN 0 60 (nI n) = true from c2, bd_s, if_neg (show ¬ b2i true = 0 by decide), pu_s, bd_s, st_at, if_pos (by decide), show st ρ2 399 0 0 = st ρ2 399 0 (nI 0) from rfl, u1, bd_s, u2, bd2_s, u4, m_burning Wn u3, bd_s, m_oilOfAll Wn u3, bd_s, bd_s]
      refine ⟨ρ4, ?_, u5⟩
      by_cases d : y2 = 0
      · rw [if_pos d, if_pos d]
      · rw [if_neg d, if_neg d]; rfl
  · rw [Bool.not_eq_true] at c2
    refine rqT (Bf := fun τ => X12_trial x1 y2 τ) hC hR (k := nI 1) (r := nI 0) n0 ?_ ?_
    · unfold L_trial X11_trial
      rw [e_needNumber, show isN 0 60 x1 = false from c2, if_neg (by decide), bdx_r, bdx2_r]
      rfl
    · unfold X12_trial X12_trial_16
      rw [m_isN, show isN 0 60 x1 = false from c2, bd_s, if_pos (show b2i false = 0 from rfl), pu_s, bd_s, st_at, if_neg (by decide)]
      rfl
theorem r_45 (hj : j < 512) (hC : Core (1000 * j) σ v L) (hR : Rest (1000 * j) σ v.txt) : ∃ σ3, lw_45 x1 x2 x3 x4 x5 σ = some (true, σ3) ∧ Inv (j + 1) σ3 := by
  unfold lw_45
  by_cases d : x2 = 0
  · simp only [if_pos d]
    exact c_45 hj hC hR 0
  · simp only [if_neg d]
    exact c_45 hj hC hR 1
theorem r_47' (hj : j < 512) (hC : Core (1000 * j) σ v L) (hR : Rest (1000 * j) σ v.txt) : ∃ σ3, lw_47 x1 x2 x3 x4 x5 σ = some (true, σ3) ∧ Inv (j + 1) σ3 := by
  unfold lw_47
  by_cases d : x2 = 0
  · simp only [if_pos d]
    exact r_47 hj hC hR 0
  · simp only [if_neg d]
    exact r_47 hj hC hR 1
/-- the lamps that burn by a seed -/
noncomputable def spanN (v : View) (L : Lw) (n s : Nat) : Nat := cntB (((v.w_seed (nI s)) : View).after L true n).1.burn v.n
theorem spanN_le (h9 : v.n ≤ 9) {n s : Nat} : spanN v L n s ≤ 9 := Nat.le_trans cntB_le h9
noncomputable def spanR (v : View) (L : Lw) (n : Nat) (big : Bool) : Nat → Nat := iterN (fun a i => if big then max a (spanN v L n (i + 1)) else min a (spanN v L n (i + 1))) (if big then 0 else 9)
theorem spanR_le (h9 : v.n ≤ 9) {n : Nat} {big : Bool} : ∀ i, spanR v L n big i ≤ 9 := by
  intro i
  induction i with
  | zero => unfold spanR iterN; cases big <;> decide
  | succ i ih =>
    have := spanN_le (L := L) h9 (n := n) (s := i + 1)
    unfold spanR at *
    rw [iterN]
    cases big
    · exact Nat.le_trans (Nat.min_le_right _ _) this
    · exact Nat.max_le.mpr ⟨ih, this⟩
theorem e_span (hj : j < 512) {n : Nat} (hn : n ≤ 60) {big : Bool} : ∀ (m i fuel : Nat) (τ : Mem), i + m = 6 → m < fuel → Core (1000 * j) τ v L → BO τ → Mis τ → FrC σ τ → ∃ σ2, X11_span_21 fuel (nI n) (b2i big) (nI (spanR v L n big i)) (nI (i + 1)) τ = some (.inl (nI (spanR v L n big 6)), σ2) ∧ FrC σ σ2 := by
  intro m
  induction m with
  | zero =>
    intro i fuel τ hi hf hC hbo hM hF
    obtain ⟨fuel, rfl⟩ : ∃ z, fuel = z + 1 := ⟨fuel - 1, by omega⟩
    rw [X11_span_21, if_pos (show (6 : Int32) < nI (i + 1) from nI_lt (a := 6) (by omega) (by omega)), show i = 6 by omega]
    exact ⟨τ, rfl, hF⟩
  | succ m ih =>
    intro i fuel τ hi hf hC hbo hM hF
    obtain ⟨fuel, rfl⟩ : ∃ z, fuel = z + 1 := ⟨fuel - 1, by omega⟩
    obtain ⟨ρ, t1, t2, t3, t4⟩ := e_away hj hC hM (dr := true) hn (sd := nI (i + 1))
    have W := hC.1
    have h9 := W.n9
    have W1 : WF (v.w_seed (nI (i + 1))) := (by
    unfold WF
    try simp only [VR]
    exact ⟨W.n9, W.k6, W.texts, W.hour, W.night, W.fog, W.oil, W.dark, W.own, W.one, W.burn, W.sym, W.irr, W.pl, W.tp, W.lt, W.hd, W.like, W.self, W.log, W.rows⟩)
    obtain ⟨Wn, Kn⟩ := go_i (L := L) (dr := true) W1 n
    have hnn : ((v.w_seed (nI (i + 1))).after L true n).1.n = v.n := by rw [Kn.1]; simp only [VR]
    have hb := t2.burn
    rw [hnn] at hb
    have l1 := spanR_le (L := L) h9 (n := n) (big := big) i
    have l2 := spanN_le (L := L) h9 (n := n) (s := i + 1)
    rw [X11_span_21, if_neg (show ¬ (6 : Int32) < nI (i + 1) from nI_nlt (a := 6) (by omega) (by omega)), show (1 : Int32) = b2i true from rfl, t1, bd_s, show ρ 366 8 = _ from hb, e_bitCount (by omega), bd_s]
    have hbo2 : BO ρ := by unfold BO; rw [t3.1 399 (by omega)]; exact hbo
    have hC2 : Core (1000 * j) ρ v L := hC.next t3 (FrM.refl hbo2) rfl
    obtain ⟨σ2, q1, q2⟩ := ih (i + 1) fuel ρ (by omega) (by omega) hC2 hbo2 t3.2 ⟨fun c hc => by rw [t3.1 c hc, hF.1 c hc], t3.2⟩
    refine ⟨σ2, ?_, q2⟩
    rw [← q1]
    unfold X11_span_74
    rw [nI_1]
    cases big with
    | false =>
      rw [if_pos (show b2i false = 0 from rfl)]
      congr 1
      show (if nI (spanN v L n (i + 1)) < nI (spanR v L n false i) then nI (spanN v L n (i + 1)) else nI (spanR v L n false i)) = nI (min (spanR v L n false i) (spanN v L n (i + 1)))
      by_cases c : spanN v L n (i + 1) < spanR v L n false i
      · rw [if_pos (nI_lt c (by omega)), Nat.min_eq_right (by omega)]
      · rw [if_neg (nI_nlt (by omega) (by omega)), Nat.min_eq_left (by omega)]
    | true =>
      rw [if_neg (show ¬ b2i true = 0 by decide)]
      congr 1
      show (if nI (spanR v L n true i) < nI (spanN v L n (i + 1)) then nI (spanN v L n (i + 1)) else nI (spanR v L n true i)) = nI (max (spanR v L n true i) (spanN v L n (i + 1)))
      by_cases c : spanR v L n true i < spanN v L n (i + 1)
      · rw [if_pos (nI_lt c (by omega)), Nat.max_eq_right (by omega)]
      · rw [if_neg (nI_nlt (by omega) (by omega)), Nat.max_eq_left (by omega)]
theorem m_span (W : WF v) (M : SM (σ 400) v) (K : LT v.txt L) {n : Nat} (hn : n ≤ 60) {big : Bool} : ∀ (m i fuel : Nat) (τ : Mem), i + m = 6 → m < fuel → FrM σ τ → τ 400 = σ 400 → τ 399 0 = σ 399 0 → (∀ i, i < 488 → τ 402 i = σ 400 i) → ∃ σ2, X12_span_37 fuel (nI n) (b2i big) (if i = 0 then -1 else nI (spanR v L n big i)) (nI (i + 1)) τ = some (nI (spanR v L n big 6), σ2) ∧ Ok σ σ2 := by
  have h9 := W.n9
  intro m
  induction m with
  | zero =>
    intro i fuel τ hi hf hF h400 h0 h402
    obtain ⟨fuel, rfl⟩ : ∃ z, fuel = z + 1 := ⟨fuel - 1, by omega⟩
    rw [X12_span_37, if_pos (show (6 : Int32) < nI (i + 1) from nI_lt (a := 6) (by omega) (by omega)), show i = 6 by omega, if_neg (by decide)]
    exact ⟨τ, rfl, hF, h400, h0⟩
  | succ m ih =>
    intro i fuel τ hi hf hF h400 h0 h402
    obtain ⟨fuel, rfl⟩ : ∃ z, fuel = z + 1 := ⟨fuel - 1, by omega⟩
    have M1 : SM ((st τ 400 10 (nI (i + 1))) 400) (v.w_seed (nI (i + 1))) := by
      rw [st_s, h400]
      exact M.s_seed W.n9 W.k6 W.log (nI (i + 1))
    have W1 : WF (v.w_seed (nI (i + 1))) := (by
    unfold WF
    try simp only [VR]
    exact ⟨W.n9, W.k6, W.texts, W.hour, W.night, W.fog, W.oil, W.dark, W.own, W.one, W.burn, W.sym, W.irr, W.pl, W.tp, W.lt, W.hd, W.like, W.self, W.log, W.rows⟩)
    have hb : BO (st τ 400 10 (nI (i + 1))) := by unfold BO; rw [st_n (by decide)]; exact hF.2.2
    obtain ⟨ρ, r1, r2, r3⟩ := m_goes (σ := st τ 400 10 (nI (i + 1))) W1 M1 (by simp only [VR]; exact K) hb (dr := true) hn
    obtain ⟨Wn, Kn⟩ := go_i (L := L) (dr := true) W1 n
    have hnn : ((v.w_seed (nI (i + 1))).after L true n).1.n = v.n := by rw [Kn.1]; simp only [VR]
    have h402' : ∀ i, i < 488 → ρ 402 i = σ 400 i := fun k hk => by rw [r3.1 402 (by decide) (by decide) (by decide), st_n (by decide)]; exact h402 k hk
    have hback := m_back M h402' r2 (by rw [Kn.2.2.1]; simp only [VR])
    have l1 := spanR_le (L := L) h9 (n := n) (big := big) i
    have l2 := spanN_le (L := L) h9 (n := n) (s := i + 1)
    rw [X12_span_37, if_neg (show ¬ (6 : Int32) < nI (i + 1) from nI_nlt (a := 6) (by omega) (by omega)), show (10 : Int32) = nI 10 from rfl, m_set (by omega), bd_s, show (1 : Int32) = b2i true from rfl, r1, bd2_s, m_burning Wn r2, bd_s, hnn, m_bits (by omega), bd_s, hback, bd_s]
    have hF2 : FrM σ (sr ρ 400 (σ 400)) := by
      refine FrM.sr4 ⟨fun c hc => ?_, fun k hk => ?_, r3.2.2⟩
      · rw [r3.1 c (by omega) (by omega) (by omega), st_n (by omega)]; exact hF.1 c hc
      · rw [r3.2.1 k (by omega), st_n (by decide)]; exact hF.2.1 k hk
    obtain ⟨σ2, q1, q2⟩ := ih (i + 1) fuel (sr ρ 400 (σ 400)) (by omega) (by omega) hF2 (by rw [sr_s]) (by rw [sr_n (by decide), r3.2.1 0 (by omega), st_n (by decide)]; exact h0) (fun k hk => by rw [sr_n (by decide)]; exact h402' k hk)
    refine ⟨σ2, ?_, q2⟩
    rw [← q1, if_neg (show ¬ i + 1 = 0 by omega)]
    unfold X12_span_103
    rw [show b2i true = (1 : Int32) from rfl, nI_1]
    have hs : cntB ((v.w_seed (nI (i + 1))).after L true n).1.burn v.n = spanN v L n (i + 1) := rfl
    rw [hs]
    by_cases c0 : i = 0
    · subst c0
      have h1 : spanR v L n big (0 + 1) = spanN v L n (0 + 1) := by
        unfold spanR
        rw [iterN]
        cases big with
        | false => exact Nat.min_eq_right l2
        | true => exact Nat.max_eq_right (Nat.zero_le _)
      rw [if_pos rfl, if_pos rfl, h1]
    · rw [if_neg c0, if_neg (show ¬ nI (spanR v L n big i) = -1 from nI_m1 (by omega))]
      cases big with
      | false =>
        rw [if_pos (show b2i false = 0 from rfl), m_lesser (by omega) (by omega), bd_s]
        rfl
      | true =>
        rw [if_neg (show ¬ b2i true = 0 by decide), m_greater (by omega) (by omega), bd_s]
        rfl
theorem c_46 (hj : j < 512) (hC : Core (1000 * j) σ v L) (hR : Rest (1000 * j) σ v.txt) : ∀ big : Bool, ∃ σ3, (bd2 (L_span x1 (b2i big) σ) fun r1 τ1 => bd2 (X12_span x1 (b2i big) τ1) fun r2 τ2 => bd (X12_thrown τ2) fun r3 => if r3 = r1 then (if r1 = 0 then (if (lg_cmp ((τ2 411 0).toInt64) r2.toInt64) = 0 then some (true, τ2) else some (false, τ2)) else some (true, τ2)) else some (false, τ2)) = some (true, σ3) ∧ Inv (j + 1) σ3 := by
  intro big
  obtain ⟨W, R, M, K, KT, Kl⟩ := id hC
  have h9 := W.n9
  by_cases c2 : isN (nI 0) (nI 60) x1 = true
  · obtain ⟨n, -, hn, rfl⟩ := isN_t (by omega) (by omega) c2
    obtain ⟨τ, t1, t2⟩ := e_span hj hn (big := big) 6 0 FU σ rfl (FUb (by omega)) hC hR.1 hR.2.2.2.2 (FrC.refl hR.2.2.2.2)
    refine rqM (Bf := fun τ => X12_span (nI n) (b2i big) τ) (σ1 := τ) hC hR (r := nI (spanR v L n big 6)) t2 ?_ (fun ρ2 hρ M1 M2 hb => ?_)
    · unfold L_span X11_span X11_span_17
      rw [e_needNumber, if_pos (show isN 0 60 _ = true from c2), bdx_l]
      cases big with
      | false => rw [if_pos (show b2i false = 0 from rfl), show X11_span_21 FU (nI n) (b2i false) 9 1 σ = _ from t1]; rfl
      | true => rw [if_neg (show ¬ b2i true = 0 by decide), show X11_span_21 FU (nI n) (b2i true) 0 1 σ = _ from t1]; rfl
    · obtain ⟨a1, a2⟩ := aside_M hb
      have a402 : ∀ i, i < 488 → sr (st ρ2 399 0 (nI 0)) 402 (cpL ((st ρ2 399 0 (nI 0)) 400) ((st ρ2 399 0 (nI 0)) 402) 488) 402 i = (st ρ2 399 0 (nI 0)) 400 i := fun i hi => aside_402 hi
      have a0 : sr (st ρ2 399 0 (nI 0)) 402 (cpL ((st ρ2 399 0 (nI 0)) 400) ((st ρ2 399 0 (nI 0)) 402) 488) 399 0 = (st ρ2 399 0 (nI 0)) 399 0 := by rw [sr_n (by decide)]
      obtain ⟨τ2, u1, u2⟩ := m_span W M2 KT hn (big := big) 6 0 FU _ rfl (FUb (by omega)) a1 a2 a0 a402
      rw [if_pos rfl] at u1
      unfold X12_span X12_span_16
      rw [m_isN, show isN 0 60 (nI n) = true from c2, bd_s, if_neg (show ¬ b2i true = 0 by decide), pu_s, bd_s, st_at, if_pos (by decide), show st ρ2 399 0 0 = st ρ2 399 0 (nI 0) from rfl, m_putsAside, bd_s]
      exact ⟨τ2, u1, u2⟩
  · rw [Bool.not_eq_true] at c2
    refine rqT (Bf := fun τ => X12_span x1 (b2i big) τ) hC hR (k := nI 1) (r := nI 0) n0 ?_ ?_
    · unfold L_span X11_span
      rw [e_needNumber, show isN 0 60 x1 = false from c2, if_neg (by decide), bdx_r, bdx2_r]
      rfl
    · unfold X12_span X12_span_16
      rw [m_isN, show isN 0 60 x1 = false from c2, bd_s, if_pos (show b2i false = 0 from rfl), pu_s, bd_s, st_at, if_neg (by decide)]
      rfl
theorem r_46 (hj : j < 512) (hC : Core (1000 * j) σ v L) (hR : Rest (1000 * j) σ v.txt) : ∃ σ3, lw_46 x1 x2 x3 x4 x5 σ = some (true, σ3) ∧ Inv (j + 1) σ3 := by
  unfold lw_46
  by_cases d : x2 = 0
  · simp only [if_pos d]
    exact c_46 hj hC hR false
  · simp only [if_neg d]
    exact c_46 hj hC hR true
theorem r_48 (hj : j < 512) (hC : Core (1000 * j) σ v L) (hR : Rest (1000 * j) σ v.txt) : ∃ σ3, lw_48 x1 x2 x3 x4 x5 σ = some (true, σ3) ∧ Inv (j + 1) σ3 := by
  obtain ⟨W, R, M, K, KT, Kl⟩ := id hC
  have h60 := W.log
  by_cases c2 : isN (nI 0) (nI 4) x2 = true
  · obtain ⟨k, -, hk, rfl⟩ := isN_t (by omega) (by omega) c2
    by_cases c1 : isP v.log.length x1 = true
    · obtain ⟨a, ha, rfl⟩ := isP_t (by omega) c1
      have hl : v.log[a]? = some (v.log[a]'ha) := List.getElem?_eq_getElem _
      refine rqM (σ1 := σ) hC hR (r := (v.log[a]'ha).tell k) (FrC.refl hR.2.2.2.2) ?_ (fun ρ2 hρ M1 M2 hb => ?_)
      · unfold L_log X11_log
        rw [if_neg (nI_pos (by omega)), if_pos (show nI k ≤ 4 from nI_le (b := 4) (by omega) (by omega)), if_neg (nI_pos (by omega)), e_rows R (by omega), bd_s, if_pos (nI_lt ha (by omega)), e_readRow kd9 W R (by omega) hl (by omega), bd_s]
        rfl
      · unfold X12_log X12_log_15
        rw [m_isN, show isN 0 4 (nI k) = true from c2, bd_s, if_neg (show ¬ b2i true = 0 by decide), pu_s, bd_s, st_at, if_pos (by decide), show st ρ2 399 0 0 = st ρ2 399 0 (nI 0) from rfl, show (9 : Int32) = nI 9 from rfl, a_logs M2, bd_s, m_isIn, show (0 : Int32) = nI 0 from rfl, show (1 : Int32) = nI 1 from rfl]
        rw [show (nI 0 : Int32) = 0 from rfl, isP_le (by omega), isP_nI ha (by omega), bd_s, if_neg (show ¬ b2i true = 0 by decide), show st ρ2 399 0 0 = st ρ2 399 0 (nI 0) from rfl, m_logged W M2 hl (by omega), bd_s]
        exact ⟨_, rfl, Ok.refl hb⟩
    · rw [Bool.not_eq_true] at c1
      refine rqM (σ1 := σ) hC hR (r := -2) (FrC.refl hR.2.2.2.2) ?_ (fun ρ2 hρ M1 M2 hb => ?_)
      · unfold L_log X11_log
        rw [if_neg (nI_pos (by omega)), if_pos (show nI k ≤ 4 from nI_le (b := 4) (by omega) (by omega)), e_rows R (by omega), bd_s]
        by_cases d0 : x1 < 0
        · rw [if_pos d0]; rfl
        · have d1 : ¬ x1 < nI v.log.length := by
            intro d1
            unfold isP at c1
            rw [decide_eq_true (Int32.not_lt.mp d0), decide_eq_true d1] at c1
            cases c1
          rw [if_neg d0, if_neg d1]; rfl
      · unfold X12_log X12_log_15
        rw [m_isN, show isN 0 4 (nI k) = true from c2, bd_s, if_neg (show ¬ b2i true = 0 by decide), pu_s, bd_s, st_at, if_pos (by decide), show st ρ2 399 0 0 = st ρ2 399 0 (nI 0) from rfl, show (9 : Int32) = nI 9 from rfl, a_logs M2, bd_s, m_isIn, show (1 : Int32) = nI 1 from rfl, isP_le (by omega), c1, bd_s, if_pos (show b2i false = 0 from rfl)]
        exact ⟨_, rfl, Ok.refl hb⟩
  · rw [Bool.not_eq_true] at c2
    refine rqT hC hR (k := nI 1) (r := nI 0) n0 ?_ ?_
    · unfold L_log X11_log X11_log_9
      by_cases d0 : x2 < 0
      · rw [if_pos d0, bdx_r]; exact hx_1
      · have d2 : ¬ x2 ≤ 4 := by
          intro d2
          unfold isN at c2
          rw [decide_eq_true (show nI 0 ≤ x2 from Int32.not_lt.mp d0), decide_eq_true (show x2 ≤ nI 4 from d2)] at c2
          cases c2
        rw [if_neg d0, if_neg d2, bdx_r]; exact hx_1
    · unfold X12_log X12_log_15
      rw [m_isN, show isN 0 4 x2 = false from c2, bd_s, if_pos (show b2i false = 0 from rfl), pu_s, bd_s, st_at, if_neg (by decide)]
      rfl
/-! resting choices -/
def gainI (x y : Bool) (l : Int32) : Int32 := if x = true then (if y = false then 4 else 0) else if y = false then l - 3 else -2
theorem gain_s {x y : Bool} {l : Int32} : X1_gain σ (b2i x) (b2i y) l = some (gainI x y l) := by cases x <;> cases y <;> rfl
theorem hasBy_s (W : WF v) (M : SM (σ 400) v) {w o : Nat} (hw : w < v.k) (ho : o < v.k) {x y : Bool} : X12_hasBy σ (nI w) (nI o) (b2i x) (b2i y) = some (gainI x y (nI (v.like w o))) := by
  unfold X12_hasBy
  rw [m_liking W M hw ho, bd_s]
  cases x <;> cases y <;> rfl
/-- one choice of each -/
noncomputable def restS (a b acc : Int32) (x y : Bool) : Int32 := if gainI x y a < gainI (!x) y a then acc else if gainI y x b < gainI (!y) x b then acc else acc ||| bitv (2 * x.toNat + y.toNat)
theorem e_rests {a b : Int32} : X1_restingChoices σ a b = some (restS a b (restS a b (restS a b (restS a b (nI 0) false false) false true) true false) true true) := by
  have g : ∀ x y l, X1_gain σ (b2i x) (b2i y) l = some (gainI x y l) := fun x y l => gain_s
  have stp : ∀ (rc5 rc14) (acc : Int32) (x y : Bool) (x4 x5 : Int32), x4 = b2i x → x5 = b2i y → (bd (X1_gain σ x4 x5 a) fun r26 => bd (X1_gain σ ((1 : Int32) - x4) x5 a) fun r37 => if r26 < r37 then X1_restingChoices_48 σ rc5 rc14 a b acc x4 x5 (0 : Int32) else X1_restingChoices_48 σ rc5 rc14 a b acc x4 x5 (1 : Int32)) = rc14 a b (restS a b acc x y) x4 (x5 + 1) := by
    intro rc5 rc14 acc x y x4 x5 h1 h2
    subst h1 h2
    have n1 : ∀ x : Bool, (1 : Int32) - b2i x = b2i (!x) := by intro x; cases x <;> rfl
    unfold X1_restingChoices_48 X1_restingChoices_78
    rw [n1, n1, g, g, g, g, bd_s, bd_s, bd_s, bd_s]
    unfold restS
    by_cases c1 : gainI x y a < gainI (!x) y a
    · rw [if_pos c1, if_pos c1]
      by_cases c2 : gainI y x b < gainI (!y) x b
      · rw [if_pos c2]; rfl
      · rw [if_neg c2]; rfl
    · rw [if_neg c1, if_neg c1]
      by_cases c2 : gainI y x b < gainI (!y) x b
      · rw [if_pos c2, bd_s, bd_s, if_pos c2]; rfl
      · rw [if_neg c2, bd_s, bd_s, if_neg c2, if_neg (by decide), if_neg (by decide)]
        cases x <;> cases y <;> rfl
  unfold X1_restingChoices
  obtain ⟨z, hz⟩ : ∃ z, FU = z + 4 := ⟨FU - 4, by rfl⟩
  rw [hz, X1_restingChoices_5, if_neg (by decide), hz, X1_restingChoices_14, if_neg (by decide), stp _ _ _ false false 0 0 rfl rfl, X1_restingChoices_14, if_neg (by decide), stp _ _ _ false true 0 (0 + 1) rfl rfl, X1_restingChoices_14, if_pos (by decide)]
  rw [X1_restingChoices_5, if_neg (by decide), hz, X1_restingChoices_14, if_neg (by decide), stp _ _ _ true false (0 + 1) 0 rfl rfl, X1_restingChoices_14, if_neg (by decide), stp _ _ _ true true (0 + 1) (0 + 1) rfl rfl, X1_restingChoices_14, if_pos (by decide)]
  rw [X1_restingChoices_5, if_pos (by decide)]
  rfl
theorem m_rests (W : WF v) (M : SM (σ 400) v) {w o : Nat} (hw : w < v.k) (ho : o < v.k) : X12_rests_20 FU (nI w) (nI o) 0 0 σ = some (restS (nI (v.like w o)) (nI (v.like o w)) (restS (nI (v.like w o)) (nI (v.like o w)) (restS (nI (v.like w o)) (nI (v.like o w)) (restS (nI (v.like w o)) (nI (v.like o w)) (nI 0) false false) false true) true false) true true, σ) := by
  have stp : ∀ (f : Nat) (acc : Int32) (x y : Bool) (x4 : Int32), x4 / 2 = b2i x → x4 - x4 / 2 * 2 = b2i y → ¬ (4 : Int32) ≤ x4 → (1 : Int32) <<< (x4 &&& 31) = bitv (2 * x.toNat + y.toNat) → X12_rests_20 (f + 1) (nI w) (nI o) acc x4 σ = X12_rests_20 f (nI w) (nI o) (restS (nI (v.like w o)) (nI (v.like o w)) acc x y) (x4 + 1) σ := by
    intro f acc x y x4 h1 h2 h3 h4
    have n1 : ∀ x : Bool, (1 : Int32) - b2i x = b2i (!x) := by intro x; cases x <;> rfl
    rw [X12_rests_20, if_neg h3, h2, h1, n1, n1, hasBy_s W M hw ho, hasBy_s W M hw ho, bd_s, bd_s, hasBy_s W M ho hw, hasBy_s W M ho hw, bd_s, bd_s, h4]
    unfold restS
    by_cases c1 : gainI x y (nI (v.like w o)) < gainI (!x) y (nI (v.like w o))
    · rw [if_pos c1, if_pos c1]
    · rw [if_neg c1, if_neg c1]
      by_cases c2 : gainI y x (nI (v.like o w)) < gainI (!y) x (nI (v.like o w))
      · rw [if_pos c2, if_pos c2]
      · rw [if_neg c2, if_neg c2]
  obtain ⟨z, hz⟩ : ∃ z, FU = z + 5 := ⟨FU - 5, by rfl⟩
  rw [hz, stp _ _ false false 0 (by decide) (by decide) (by decide) rfl, stp _ _ false true (0 + 1) (by decide) (by decide) (by decide) rfl, stp _ _ true false (0 + 1 + 1) (by decide) (by decide) (by decide) rfl, stp _ _ true true (0 + 1 + 1 + 1) (by decide) (by decide) (by decide) rfl, X12_rests_20, if_pos (by decide)]
  rfl
theorem r_36 (hC : Core (1000 * j) σ v L) (hR : Rest (1000 * j) σ v.txt) : ∃ σ3, lw_36 x1 x2 x3 x4 x5 σ = some (true, σ3) ∧ Inv (j + 1) σ3 := by
  obtain ⟨W, R, M, K, KT, Kl⟩ := id hC
  have hB := kd9
  have h6 := W.k6
  by_cases c1 : isP v.k x1 = true
  · by_cases c2 : isP v.k x2 = true
    · obtain ⟨w, w1, rfl⟩ := isP_t (by omega) c1
      obtain ⟨o, o1, rfl⟩ := isP_t (by omega) c2
      by_cases c3 : w = o
      · subst c3
        refine rqT hC hR (k := nI 2) (r := nI 0) n2 ?_ ?_
        · simp -implicitDefEqProofs (disch := omega) only [L_rests, X11_rests, X11_needTwoWalkers, e_needWalker R, c1, hx_2b, bd_s, bd2_s, bdx_l, bdx_r, bdx2_l, bdx2_r, pu_s, gb0, gb1, gb_b, li0, li1, li2, li3, li4, li5, li6, li7, li8, li9, li10, li11, li12, li13, li14, li15, li16, li17, li18, li19, li20, li21, li22, li23, li24, li25, li26, li27, li28, li29, li30, li31, li32, li39, li40, li41, li43, li47, li48, li57, li59, li60, li62, li63, li64, li81, li97, li99, li100, li122, li128, li152, li188, li189, li190, li191, li192, li255, li299, li380, li400, li488, li888, li999, li1000, li5368, li9999, neg1, b2i_z, b2i_o, b2i_e, b2i_t, b2i_f, oI_s, nI_on, on_nI, on_on, le_on, on_lt, on_le, lt_on, nI_leI, nI_ltI, nI_eq, nI_add, nI_mul, nI_subN, nI_subon, nI_addon, sh1, xorN, ite_true, ite_false, if_true, if_false, not_true_eq_false, not_false_eq_true, reduceCtorEq, G_oil hB W R, G_own hB W R, G_dark hB W R, G_way hB W R, G_pl hB W R, G_tp hB W R, G_hd hB W R, G_lt hB W R, R.n, R.k, R.hour, R.night, R.fog, R.mist, R.texts, R.seed, R.burn, e_isBurning W R, e_hasBit, e_bit, hbE, e_likesFor hB W R, e_hasWay hB W R, e_far hB W R, far_on, own_on W, hd_on W, own_is W, hd_is W]
        · simp -implicitDefEqProofs (disch := omega) only [X12_rests, X12_areTwo, m_isWalker W M, c1, st_at, Nat.reduceLeDiff, bd_s, bd2_s, bdx_l, bdx_r, bdx2_l, bdx2_r, pu_s, gb0, gb1, gb_b, li0, li1, li2, li3, li4, li5, li6, li7, li8, li9, li10, li11, li12, li13, li14, li15, li16, li17, li18, li19, li20, li21, li22, li23, li24, li25, li26, li27, li28, li29, li30, li31, li32, li39, li40, li41, li43, li47, li48, li57, li59, li60, li62, li63, li64, li81, li97, li99, li100, li122, li128, li152, li188, li189, li190, li191, li192, li255, li299, li380, li400, li488, li888, li999, li1000, li5368, li9999, neg1, b2i_z, b2i_o, b2i_e, b2i_t, b2i_f, oI_s, nI_on, on_nI, on_on, le_on, on_lt, on_le, lt_on, nI_leI, nI_ltI, nI_eq, nI_add, nI_mul, nI_subN, nI_subon, nI_addon, sh1, xorN, ite_true, ite_false, if_true, if_false, not_true_eq_false, not_false_eq_true, reduceCtorEq, o_oil W M, o_burn W M, o_own W M, o_dark W M, o_pl W M, o_tp W M, o_hd W M, o_lt W M, a_n M, a_k M, a_hour M, a_night M, a_fog M, a_mist M, a_logs M, a_seed M, a_texts M, e_isOf, hbE, m_isWay W M, m_far W M, m_nextTo W M, m_liking W M, m_likesOwner W M, m_lesser, m_greater, m_isIn, far_on, own_on W, hd_on W, own_is W, hd_is W]
      · have c4 : ¬ o = w := fun z => c3 z.symm
        refine rqM (σ1 := σ) hC hR (r := restS (nI (v.like w o)) (nI (v.like o w)) (restS (nI (v.like w o)) (nI (v.like o w)) (restS (nI (v.like w o)) (nI (v.like o w)) (restS (nI (v.like w o)) (nI (v.like o w)) (nI 0) false false) false true) true false) true true) (FrC.refl hR.2.2.2.2) ?_ (fun ρ2 hρ M1 M2 hb => ?_)
        · unfold L_rests X11_rests X11_needTwoWalkers
          rw [e_needWalker R, if_pos c1, bdx_l, e_needWalker R, if_pos c2, bdx_l, if_neg (fun z => c3 (nI_inj (by omega) (by omega) z)), bdx_l, e_likesOf hB W R w1 o1 c3, bd_s, e_likesOf hB W R o1 w1 c4, bd_s, e_rests, bd_s]
          rfl
        · unfold X12_rests X12_areTwo
          rw [m_isWalker W M1, c1, bd_s, if_neg (show ¬ b2i true = 0 by decide), m_isWalker W M1, c2, bd_s, if_neg (show ¬ b2i true = 0 by decide), if_neg (fun z => c3 (nI_inj (by omega) (by omega) z)), pu_s, bd_s, bd_s, st_at, if_pos (by decide)]
          exact ⟨_, m_rests W M2 w1 o1, Ok.refl hb⟩
    · rw [Bool.not_eq_true] at c2
      refine rqT hC hR (k := nI 1) (r := nI 0) n0 ?_ ?_
      · simp -implicitDefEqProofs (disch := omega) only [L_rests, X11_rests, X11_needTwoWalkers, e_needWalker R, c1, c2, hx_2a, Bool.false_eq_true, bd_s, bd2_s, bdx_l, bdx_r, bdx2_l, bdx2_r, pu_s, gb0, gb1, gb_b, li0, li1, li2, li3, li4, li5, li6, li7, li8, li9, li10, li11, li12, li13, li14, li15, li16, li17, li18, li19, li20, li21, li22, li23, li24, li25, li26, li27, li28, li29, li30, li31, li32, li39, li40, li41, li43, li47, li48, li57, li59, li60, li62, li63, li64, li81, li97, li99, li100, li122, li128, li152, li188, li189, li190, li191, li192, li255, li299, li380, li400, li488, li888, li999, li1000, li5368, li9999, neg1, b2i_z, b2i_o, b2i_e, b2i_t, b2i_f, oI_s, nI_on, on_nI, on_on, le_on, on_lt, on_le, lt_on, nI_leI, nI_ltI, nI_eq, nI_add, nI_mul, nI_subN, nI_subon, nI_addon, sh1, xorN, ite_true, ite_false, if_true, if_false, not_true_eq_false, not_false_eq_true, reduceCtorEq, G_oil hB W R, G_own hB W R, G_dark hB W R, G_way hB W R, G_pl hB W R, G_tp hB W R, G_hd hB W R, G_lt hB W R, R.n, R.k, R.hour, R.night, R.fog, R.mist, R.texts, R.seed, R.burn, e_isBurning W R, e_hasBit, e_bit, hbE, e_likesFor hB W R, e_hasWay hB W R, e_far hB W R, far_on, own_on W, hd_on W, own_is W, hd_is W]
      · simp -implicitDefEqProofs (disch := omega) only [X12_rests, X12_areTwo, m_isWalker W M, c1, c2, st_at, Nat.reduceLeDiff, bd_s, bd2_s, bdx_l, bdx_r, bdx2_l, bdx2_r, pu_s, gb0, gb1, gb_b, li0, li1, li2, li3, li4, li5, li6, li7, li8, li9, li10, li11, li12, li13, li14, li15, li16, li17, li18, li19, li20, li21, li22, li23, li24, li25, li26, li27, li28, li29, li30, li31, li32, li39, li40, li41, li43, li47, li48, li57, li59, li60, li62, li63, li64, li81, li97, li99, li100, li122, li128, li152, li188, li189, li190, li191, li192, li255, li299, li380, li400, li488, li888, li999, li1000, li5368, li9999, neg1, b2i_z, b2i_o, b2i_e, b2i_t, b2i_f, oI_s, nI_on, on_nI, on_on, le_on, on_lt, on_le, lt_on, nI_leI, nI_ltI, nI_eq, nI_add, nI_mul, nI_subN, nI_subon, nI_addon, sh1, xorN, ite_true, ite_false, if_true, if_false, not_true_eq_false, not_false_eq_true, reduceCtorEq, o_oil W M, o_burn W M, o_own W M, o_dark W M, o_pl W M, o_tp W M, o_hd W M, o_lt W M, a_n M, a_k M, a_hour M, a_night M, a_fog M, a_mist M, a_logs M, a_seed M, a_texts M, e_isOf, hbE, m_isWay W M, m_far W M, m_nextTo W M, m_liking W M, m_likesOwner W M, m_lesser, m_greater, m_isIn, far_on, own_on W, hd_on W, own_is W, hd_is W]
  · rw [Bool.not_eq_true] at c1
    refine rqT hC hR (k := nI 1) (r := nI 0) n0 ?_ ?_
    · simp -implicitDefEqProofs (disch := omega) only [L_rests, X11_rests, X11_needTwoWalkers, e_needWalker R, c1, hx_2a, Bool.false_eq_true, bd_s, bd2_s, bdx_l, bdx_r, bdx2_l, bdx2_r, pu_s, gb0, gb1, gb_b, li0, li1, li2, li3, li4, li5, li6, li7, li8, li9, li10, li11, li12, li13, li14, li15, li16, li17, li18, li19, li20, li21, li22, li23, li24, li25, li26, li27, li28, li29, li30, li31, li32, li39, li40, li41, li43, li47, li48, li57, li59, li60, li62, li63, li64, li81, li97, li99, li100, li122, li128, li152, li188, li189, li190, li191, li192, li255, li299, li380, li400, li488, li888, li999, li1000, li5368, li9999, neg1, b2i_z, b2i_o, b2i_e, b2i_t, b2i_f, oI_s, nI_on, on_nI, on_on, le_on, on_lt, on_le, lt_on, nI_leI, nI_ltI, nI_eq, nI_add, nI_mul, nI_subN, nI_subon, nI_addon, sh1, xorN, ite_true, ite_false, if_true, if_false, not_true_eq_false, not_false_eq_true, reduceCtorEq, G_oil hB W R, G_own hB W R, G_dark hB W R, G_way hB W R, G_pl hB W R, G_tp hB W R, G_hd hB W R, G_lt hB W R, R.n, R.k, R.hour, R.night, R.fog, R.mist, R.texts, R.seed, R.burn, e_isBurning W R, e_hasBit, e_bit, hbE, e_likesFor hB W R, e_hasWay hB W R, e_far hB W R, far_on, own_on W, hd_on W, own_is W, hd_is W]
    · simp -implicitDefEqProofs (disch := omega) only [X12_rests, X12_areTwo, m_isWalker W M, c1, st_at, Nat.reduceLeDiff, bd_s, bd2_s, bdx_l, bdx_r, bdx2_l, bdx2_r, pu_s, gb0, gb1, gb_b, li0, li1, li2, li3, li4, li5, li6, li7, li8, li9, li10, li11, li12, li13, li14, li15, li16, li17, li18, li19, li20, li21, li22, li23, li24, li25, li26, li27, li28, li29, li30, li31, li32, li39, li40, li41, li43, li47, li48, li57, li59, li60, li62, li63, li64, li81, li97, li99, li100, li122, li128, li152, li188, li189, li190, li191, li192, li255, li299, li380, li400, li488, li888, li999, li1000, li5368, li9999, neg1, b2i_z, b2i_o, b2i_e, b2i_t, b2i_f, oI_s, nI_on, on_nI, on_on, le_on, on_lt, on_le, lt_on, nI_leI, nI_ltI, nI_eq, nI_add, nI_mul, nI_subN, nI_subon, nI_addon, sh1, xorN, ite_true, ite_false, if_true, if_false, not_true_eq_false, not_false_eq_true, reduceCtorEq, o_oil W M, o_burn W M, o_own W M, o_dark W M, o_pl W M, o_tp W M, o_hd W M, o_lt W M, a_n M, a_k M, a_hour M, a_night M, a_fog M, a_mist M, a_logs M, a_seed M, a_texts M, e_isOf, hbE, m_isWay W M, m_far W M, m_nextTo W M, m_liking W M, m_likesOwner W M, m_lesser, m_greater, m_isIn, far_on, own_on W, hd_on W, own_is W, hd_is W]
end LOOKS

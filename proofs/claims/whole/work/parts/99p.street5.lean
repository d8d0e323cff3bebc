/-! a street is told: component and reference -/
section STREET5
variable {σ σ0 σ1 σ2 ρ τ : Mem} {v : View} {L : Lw} {b : Nat → Int32} {T N a p e k j : Nat} {t : (Nat → Int32) × Nat} {x1 x2 x3 x4 x5 : Int32}
theorem ln402 : ln 402 = 488 := by decide +kernel
theorem m_aside : ∃ σ2, X12_putsAside σ = some σ2 ∧ (∀ c, c ≠ 402 → σ2 c = σ c) ∧ ∀ i, i < 488 → σ2 402 i = σ 400 i := by
  unfold X12_putsAside
  rw [show (0 : Int32) = nI 0 from rfl]
  refine loop_P (L := fun f (m : Mem) x => X12_putsAside_2 f x m) (P := fun x m => (∀ c, c ≠ 402 → m c = σ c) ∧ ∀ i, i < x → m 402 i = σ 400 i) (Q := fun r => ∃ σ2, r = some σ2 ∧ (∀ c, c ≠ 402 → σ2 c = σ c) ∧ ∀ i, i < 488 → σ2 402 i = σ 400 i) (n := 488) (a := σ) (fun f m hP => ?_) (fun f m x hx hP => Or.inr ⟨st m 402 x (σ 400 x), ?_, fun c hc => by rw [st_n hc, hP.1 c hc], fun i hi => ?_⟩) (Nat.zero_le _) (FUb (by omega)) ⟨fun _ _ => rfl, fun i h => by omega⟩
  · exact ⟨m, by rw [X12_putsAside_2, if_pos (by decide)], hP.1, hP.2⟩
  · rw [X12_putsAside_2, if_neg (show ¬ (488 : Int32) ≤ nI x from nI_ge (b := 488) (by omega) (by omega)), m_at (by omega), bd_s, hP.1 400 (by decide), au_nI (by rw [ln402]; omega) (by omega), bd_s, nI_1]
  · by_cases c : i = x
    · rw [c, st_at]
    · rw [st_at' c, hP.2 i (by omega)]
theorem m_backS : ∃ σ2, X12_comesBack σ = some σ2 ∧ (∀ c, c ≠ 400 → σ2 c = σ c) ∧ ∀ i, σ2 400 i = if i < 488 then σ 402 i else σ 400 i := by
  unfold X12_comesBack
  rw [show (0 : Int32) = nI 0 from rfl]
  refine loop_P (L := fun f (m : Mem) x => X12_comesBack_2 f x m) (P := fun x m => (∀ c, c ≠ 400 → m c = σ c) ∧ ∀ i, m 400 i = if i < x then σ 402 i else σ 400 i) (Q := fun r => ∃ σ2, r = some σ2 ∧ (∀ c, c ≠ 400 → σ2 c = σ c) ∧ ∀ i, σ2 400 i = if i < 488 then σ 402 i else σ 400 i) (n := 488) (a := σ) (fun f m hP => ?_) (fun f m x hx hP => Or.inr ⟨st m 400 x (σ 402 x), ?_, fun c hc => by rw [st_n hc, hP.1 c hc], fun i => ?_⟩) (Nat.zero_le _) (FUb (by omega)) ⟨fun _ _ => rfl, fun i => by rw [if_neg (by omega)]⟩
  · exact ⟨m, by rw [X12_comesBack_2, if_pos (by decide)], hP.1, hP.2⟩
  · rw [X12_comesBack_2, if_neg (show ¬ (488 : Int32) ≤ nI x from nI_ge (b := 488) (by omega) (by omega)), ag_nI (by rw [ln402]; omega) (by omega), bd_s, hP.1 402 (by decide), m_set (by omega), bd_s, nI_1]
  · by_cases c : i = x
    · rw [c, st_at, if_pos (by omega)]
    · rw [st_at' c, hP.2 i]
      by_cases c2 : i < x
      · rw [if_pos c2, if_pos (by omega)]
      · rw [if_neg c2, if_neg (by omega)]
theorem r_2 (hC : Core (1000 * j) σ v L) (hR : Rest (1000 * j) σ v.txt) : ∃ σ3, lw_2 x1 x2 x3 x4 x5 σ = some (true, σ3) ∧ Inv (j + 1) σ3 := by
  obtain ⟨W, R, M, K, KT, Kl⟩ := id hC
  obtain ⟨T, bN, t1, t2, t3, t4⟩ := hR.2.1.byts
  have bT : ∀ k, k < T → letB σ bN T k = nI (bN k) := fun k hk => if_pos hk
  have hLC : LetC σ (letB σ bN T) T := ⟨t1, fun k hk => by rw [bT k hk]; exact (t4 k hk).1⟩
  generalize hbb : letB σ bN T = b at bT hLC
  obtain ⟨σ1, N, a1, a2, a3, a4⟩ := e_scan hLC t2
  have R1 : SC σ1 9 v (1000 * j) := R.move fun c c1 c2 => a4 c (by omega) (by omega) (by omega) (by omega)
  obtain ⟨τ0, d1, d2, d3⟩ := e_copy kd30 kd9' (Or.inr (by decide)) R1 W
  have z0 : ∀ i, i ≠ 5 → i ≠ 6 → i ≠ 1 → τ0 1 i = σ 1 i := fun i i1 i2 i3 => by rw [d3 1 (by omega), a3, st_at' i2, st_at' i1, st_at' i3]
  have z1 : τ0 1 1 = nI 0 := by rw [d3 1 (by omega), a3, st_at' (by decide), st_at' (by decide), st_at]; rfl
  have k0 : IS τ0 b T N (1000 * j) (v.txt, v.texts) v 0 0 τ0 := by
    refine ⟨a2.move (d3 4 (by omega)) (d3 6 (by omega)) (d3 8 (by omega)), ?_, Nat.zero_le _, ?_, W, d2, rfl, fun _ _ _ => rfl, fun _ _ _ => rfl⟩
    · rw [d3 1 (by omega), a3, st_at' (by decide), st_at]; rfl
    · rw [d3 1 (by omega), a3, st_at]
  have hres := e_readStreet k0
  have eA : X11_street σ = bd2 (X8_readAll 30 τ0) fun r26 σ26 => if r26 = 0 then some (.inr 2, σ26) else if (σ26 9 2) < (12 : Int32) then bd (X7_copyFrom 9 30 σ26) fun σ72 => bd (pu σ72 9 2 ((σ72 9 2) + (1 : Int32))) fun σ85 => bd (X2_forget σ85) fun σ92 => some (.inl (σ92 9 2), σ92) else some (.inr 5, σ26) := by
    unfold X11_street
    rw [a1, bd_s, d1, bd_s]
  -- the reference up to the reading
  have ref : ∀ ρ : Mem, ρ 404 = σ 404 → ρ 399 = σ 399 → ρ 400 = σ 400 → ∃ ρ1 ρ0, X12_putsAside ρ = some ρ1 ∧ X12_begins ρ1 = some ρ0 ∧ (∀ c, c ≠ 399 → c ≠ 402 → ρ0 c = ρ c) ∧ (∀ i, i < 488 → ρ0 402 i = σ 400 i) ∧ MSt ρ0 b T (v.txt, v.texts) v ρ0 ∧ ρ0 = PA ρ0 0 0 ∧ ρ0 399 8 = nI 0 ∧ ∀ i, i < 8 ∨ 14 ≤ i → ρ0 399 i = σ 399 i := by
    intro ρ e1 e2 e3
    obtain ⟨ρ1, p1, p2, p3⟩ := m_aside (σ := ρ)
    obtain ⟨ρ0, q1, q2, q3, q4, q5, q6, q7, q8, q9⟩ := m_begins (ρ := ρ1)
    rw [p2 399 (by decide), e2] at q5 q9
    have l1 : LetR ρ0 b T := ⟨t1, by rw [q5]; exact t3, Or.inl ⟨q4, fun k hk => by rw [q2 404 (by decide), p2 404 (by decide), e1, bT k hk]; exact (t4 k hk).2.1⟩⟩
    refine ⟨ρ1, ρ0, p1, q1, fun c c1 c2 => by rw [q2 c c1, p2 c c2], fun i hi => by rw [q2 402 (by decide), p3 i hi, e3], ⟨l1, q4, q3, W, by rw [q2 400 (by decide), p2 400 (by decide), e3]; exact M, rfl, fun _ _ => rfl⟩, ?_, q6, q9⟩
    unfold PA
    rw [st_self (k := 399) (i := 13) q8, st_self q7]
  -- back as it was
  have back : ∀ (k : Int32) (σA ρ0 τ1 : Mem), k ≠ 0 → L_street σ = some (k, σA) → X12_street σA = bd (X12_comesBack (st τ1 399 0 k)) (fun σ54 => some ((0 : Int32), σ54)) → (∀ c, c ≠ 1 → c ≠ 4 → c ≠ 6 → c ≠ 8 → (c < 30 ∨ 51 ≤ c) → c ≠ 411 → σA c = σ c) → σA 1 1 = nI 0 → (∀ c, c ≠ 399 → c ≠ 402 → ρ0 c = σA c) → (∀ i, i < 488 → ρ0 402 i = σ 400 i) → (∀ c, c ≠ 399 → c ≠ 400 → τ1 c = ρ0 c) → (∀ i, 488 ≤ i → τ1 400 i = σ 400 i) → σA 1 6 = τ1 399 12 → τ1 399 8 = nI 0 → (∀ i, i = 3 ∨ i = 6 ∨ i = 15 ∨ i = 17 → τ1 399 i = σ 399 i) → ∃ σ3, lw_2 x1 x2 x3 x4 x5 σ = some (true, σ3) ∧ Inv (j + 1) σ3 := by
    intro k σA ρ0 τ1 hk hA hB f1 f2 f3 f4 f5 f6 f7 f8 f9
    obtain ⟨τ2, b1, b2, b3⟩ := m_backS (σ := st τ1 399 0 k)
    rw [b1, bd_s] at hB
    have e400 : τ2 400 = σ 400 := by
      funext i
      rw [b3 i, st_n (by decide), st_n (by decide)]
      by_cases c : i < 488
      · rw [if_pos c, f5 402 (by decide) (by decide), f4 i c]
      · rw [if_neg c, f6 i (by omega)]
    refine roadI (Bf := fun τ => X12_street τ) hA hB (by rw [b2 399 (by decide), st_at]) (fun h => absurd h hk) (txt_inv hC hR (fun c c1 c2 c3 c4 c5 c6 c7 c8 c9 c10 => ?_) ?_ ?_ ?_ (fun i hi => ?_) ?_)
    · by_cases c400 : c = 400
      · rw [c400, e400]
      · rw [b2 c c400, st_n c7, f5 c c7 c400, f3 c c7 c8, f1 c c1 c2 c3 c4 c5 c10]
    · rw [b2 1 (by decide), st_n (by decide), f5 1 (by decide) (by decide), f3 1 (by decide) (by decide), f2]
    · rw [b2 399 (by decide), st_at' (by decide), f8]
    · rw [b2 1 (by decide), st_n (by decide), f5 1 (by decide) (by decide), f3 1 (by decide) (by decide), f7, b2 399 (by decide), st_at' (by decide)]
    · rw [b2 399 (by decide), st_at' (by omega), f9 i (by omega)]
    · obtain ⟨⟨o1, ho1⟩, o2, ho2⟩ := hR.1
      exact ⟨⟨o1, by rw [b2 399 (by decide), st_at' (by decide), f9 15 (by omega)]; exact ho1⟩, o2, by rw [b2 399 (by decide), st_at' (by decide), f9 17 (by omega)]; exact ho2⟩
  cases hp : (rdAll b T (spLine b T) 14 v).2 with
  | none =>
    obtain ⟨σ2, e1, e2, e3, e4⟩ := hres.2 hp
    have fr : ∀ c, c ≠ 1 → c ≠ 4 → c ≠ 6 → c ≠ 8 → (c < 30 ∨ 51 ≤ c) → σ2 c = σ c := fun c c1 c2 c3 c4 c5 => by rw [e3 c c1 c5, d3 c (by omega), a4 c c1 c2 c3 c4]
    have hA : L_street σ = some (nI 1, σ2) := by
      unfold L_street
      rw [eA, e1, bd2_s, if_pos rfl, bdx2_r]
      rfl
    obtain ⟨ρ1, ρ0, q1, q2, q3, q4, q5, q6, q7, q8⟩ := ref σ2 (fr 404 (by decide) (by decide) (by decide) (by decide) (by decide)) (fr 399 (by decide) (by decide) (by decide) (by decide) (by decide)) (fr 400 (by decide) (by decide) (by decide) (by decide) (by decide))
    obtain ⟨y, τ, s1, hfT, σx, ax, s2, s3, s4, s5, s6, s7, s8⟩ := (m_readSt q5).2 hp
    rw [← q6] at s1
    have h12 : τ 399 12 = nI (rdAll b T (spLine b T) 14 v).1 := by rw [s2, pa_o (by decide) (by decide), s5]
    refine back (nI 1) σ2 ρ0 τ n0 hA ?_ (fun c c1 c2 c3 c4 c5 _ => fr c c1 c2 c3 c4 c5) (by rw [e4 1 (by decide) (by decide), z1]) q3 q4 (fun c c1 c2 => by rw [s2, pa_n c1, s6 c c1 c2]) (fun i hi => by rw [s2, pa_n (by decide), s8 i hi]; exact (M.txt i (by omega)).symm) (by rw [e2, h12]) (by rw [s2, pa_o (by decide) (by decide), s7 8 (by decide), q7]) (fun i hi => by rw [s2, pa_o (by omega) (by omega), s7 i (by omega), q8 i (by omega)])
    unfold X12_street X12_street_43
    rw [q1, bd_s, q2, bd_s, s1, bd2_s, if_neg (show ¬ τ 399 12 = -1 by rw [h12]; exact nI_m1 (by omega)), pu_s, bd_s, st_at, if_neg (by decide)]; rfl
  | some v2 =>
    obtain ⟨σ2, k, j2, e1, h1, h2, h3, h4, W2, R2, h7, h8, h9⟩ := hres.1 v2 hp
    have htx : v2.txt = v.txt := congrArg Prod.fst h7
    have hts : v2.texts = v.texts := congrArg Prod.snd h7
    have fr : ∀ c, c ≠ 1 → c ≠ 4 → c ≠ 6 → c ≠ 8 → (c < 30 ∨ 51 ≤ c) → σ2 c = σ c := fun c c1 c2 c3 c4 c5 => by rw [h8 c c1 c5, d3 c (by omega), a4 c c1 c2 c3 c4]
    have e92 : σ2 9 2 = nI v.texts := by rw [fr 9 (by decide) (by decide) (by decide) (by decide) (by decide)]; exact R.texts
    have h12t := W.texts
    by_cases c12 : v.texts < 12
    · obtain ⟨σ3, r1, r2, r3⟩ := e_copy kd9' kd30 (Or.inl (by decide)) R2 W2
      generalize hρ : st (st (st σ3 9 2 (nI (v.texts + 1))) 111 2 0) 411 0 (nI (v.texts + 1)) = ρ
      have hA : L_street σ = some (nI 0, ρ) := by
        unfold L_street
        rw [eA, e1, bd2_s, if_neg (by decide), e92, if_pos (show nI v.texts < 12 from nI_lt (b := 12) c12 (by omega)), r1, bd_s, r2.texts, hts, nI_1, pu_s, bd_s]
        unfold X2_forget
        rw [pu_s, bd_s, bd_s, st_n (by decide), st_at, bdx2_l, hρ]; rfl
      have fρ : ∀ c, c ≠ 1 → c ≠ 4 → c ≠ 6 → c ≠ 8 → (c < 9 ∨ 51 ≤ c) → c ≠ 111 → c ≠ 411 → ρ c = σ c := fun c c1 c2 c3 c4 c5 c6 c7 => by rw [← hρ, st_n c7, st_n c6, st_n (by omega), r3 c (by omega), fr c c1 c2 c3 c4 (by omega)]
      have Rρ : SC ρ 9 (v2.w_texts (v.texts + 1)) (1000 * j) := by
        refine (r2.s_texts (v.texts + 1)).move fun c c1 c2 => ?_
        rw [← hρ, st_n (by omega), st_n (by omega)]
      obtain ⟨ρ1, ρ0, q1, q2, q3, q4, q5, q6, q7, q8⟩ := ref ρ (fρ 404 (by decide) (by decide) (by decide) (by decide) (by decide) (by decide) (by decide)) (fρ 399 (by decide) (by decide) (by decide) (by decide) (by decide) (by decide) (by decide)) (fρ 400 (by decide) (by decide) (by decide) (by decide) (by decide) (by decide) (by decide))
      obtain ⟨y, σx, ax, s1, s2, s9, s3, s4, s5, s6, s7⟩ := (m_readSt q5).1 v2 hp
      rw [← q6] at s1
      have p4 : ∀ c, c ≠ 399 → PA σx ax 0 c = σx c := fun c hc => pa_n hc
      generalize hσ4 : PA σx ax 0 = σ4 at s1 p4
      have p12 : σ4 399 12 = -1 := by rw [← hσ4, pa_o (by decide) (by decide)]; exact s3
      have p9 : ∀ i, i ≠ 11 → i ≠ 13 → σ4 399 i = ρ0 399 i := fun i i1 i2 => by rw [← hσ4, pa_o i1 i2, s7 399 (by decide)]
      have g0 : σ4 400 0 = nI v.texts := by rw [p4 400 (by decide), s5.texts, hts]
      generalize hσ6 : st (st (st σ4 399 0 0) 400 0 (nI (v.texts + 1))) 399 6 0 = σ6
      have hB : X12_street ρ = some (nI (v.texts + 1), σ6) := by
        unfold X12_street X12_street_43
        rw [q1, bd_s, q2, bd_s, s1, bd2_s, if_pos p12, show (0 : Int32) = nI 0 from rfl, m_at (by omega), bd_s, g0, if_neg (show ¬ nI v.texts = 12 from fun z => by have := nI_inj (b := 12) (by omega) (by omega) z; omega), pu_s, bd_s, st_at, if_pos (by decide), m_at (by omega), bd_s, st_n (by decide), g0, nI_1, m_set (by omega), bd_s, pu_s, bd_s, m_at (by omega), bd_s, st_n (by decide), st_at]
        rw [← hσ6]; rfl
      have fin : ∀ c, c ≠ 1 → c ≠ 4 → c ≠ 6 → c ≠ 8 → (c < 9 ∨ 51 ≤ c) → c ≠ 111 → c ≠ 399 → c ≠ 400 → c ≠ 402 → c ≠ 411 → σ6 c = σ c := fun c c1 c2 c3 c4 c5 c6 c7 c8 c10 c11 => by rw [← hσ6, st_n c7, st_n c8, st_n c7, p4 c c7, s7 c c8, q3 c c7 c10, fρ c c1 c2 c3 c4 c5 c6 c11]
      have finρ : ∀ c, c ≠ 399 → c ≠ 400 → c ≠ 402 → σ6 c = ρ c := fun c c7 c8 c10 => by rw [← hσ6, st_n c7, st_n c8, st_n c7, p4 c c7, s7 c c8, q3 c c7 c10]
      have fin9 : ∀ i, i ≠ 0 → i ≠ 6 → i ≠ 11 → i ≠ 13 → σ6 399 i = ρ0 399 i := fun i i0 i6 i1 i2 => by rw [← hσ6, st_at' i6, st_n (by decide), st_at' i0, p9 i i1 i2]
      have f1 : σ6 1 = σ2 1 := by rw [finρ 1 (by decide) (by decide) (by decide), ← hρ, st_n (by decide), st_n (by decide), st_n (by decide), r3 1 (by omega)]
      have tx2 : (v2.w_texts (v.texts + 1)).txt = v.txt := by simp only [VR]; exact htx
      refine roadI (Bf := fun τ => X12_street τ) hA hB ?_ (fun _ => ?_) ⟨v2.w_texts (v.texts + 1), L, ⟨(by
    unfold WF
    try simp only [VR]
    exact ⟨W2.n9, W2.k6, by omega, W2.hour, W2.night, W2.fog, W2.oil, W2.dark, W2.own, W2.one, W2.burn, W2.sym, W2.irr, W2.pl, W2.tp, W2.lt, W2.hd, W2.like, W2.self, W2.log, W2.rows⟩), ?_, ?_, K.move (fun c c1 c2 => fin c (by omega) (by omega) (by omega) (by omega) (by omega) (by omega) (by omega) (by omega) (by omega) (by omega)), by rw [tx2]; exact KT, ?_⟩, ⟨?_, ?_⟩, ⟨⟨0, by omega, ?_, ?_, fun k hk => absurd hk (by omega)⟩, ?_⟩, ?_, ?_, ?_⟩
      · rw [← hσ6, st_at' (by decide), st_n (by decide), st_at]; rfl
      · rw [finρ 411 (by decide) (by decide) (by decide), ← hρ, st_at]
      · exact (Rρ.move fun c c1 c2 => finρ c (by omega) (by omega) (by omega)).mono (by omega)
      · have : σ6 400 = upd (σx 400) 0 (nI (v.texts + 1)) := by
          rw [← hσ6, st_n (by decide), st_s, st_n (by decide), p4 400 (by decide)]
        rw [this]
        exact s5.s_texts W2.n9 W2.k6 W2.log (v.texts + 1)
      · rw [fin 72 (by decide) (by decide) (by decide) (by decide) (by decide) (by decide) (by decide) (by decide) (by decide) (by decide), tx2]; exact Kl
      · obtain ⟨o, ho⟩ := hR.1.1
        exact ⟨o, by rw [fin9 15 (by decide) (by decide) (by decide) (by decide), q8 15 (by omega)]; exact ho⟩
      · obtain ⟨o, ho⟩ := hR.1.2
        exact ⟨o, by rw [fin9 17 (by decide) (by decide) (by decide) (by decide), q8 17 (by omega)]; exact ho⟩
      · rw [f1, h9 1 (by decide) (by decide), z1]
      · rw [fin9 8 (by decide) (by decide) (by decide) (by decide), q7]
      · rw [f1, h4, fin9 12 (by decide) (by decide) (by decide) (by decide), q5.2.2.1]; rfl
      · obtain ⟨nx, K0, b1, b2, b3, b4, b5, b6⟩ := hR.2.2.1
        refine ⟨nx, 0, b1, by omega, ?_, ?_, by rw [← hσ6, st_at]; rfl, fun i hi => absurd hi (by omega)⟩
        · rw [finρ 111 (by decide) (by decide) (by decide), ← hρ, st_n (by decide), st_at' (by decide), st_n (by decide), r3 111 (by omega), fr 111 (by decide) (by decide) (by decide) (by decide) (by decide)]; exact b3
        · rw [finρ 111 (by decide) (by decide) (by decide), ← hρ, st_n (by decide), st_at]; rfl
      · exact (hR.2.2.2.1.move (fin 0 (by decide) (by decide) (by decide) (by decide) (by decide) (by decide) (by decide) (by decide) (by decide) (by decide)) (fun c hc => fin c (by omega) (by omega) (by omega) (by omega) (by omega) (by omega) (by omega) (by omega) (by omega) (by omega)) (by rw [fin9 3 (by decide) (by decide) (by decide) (by decide), q8 3 (by omega)]) (fin 401 (by decide) (by decide) (by decide) (by decide) (by decide) (by decide) (by decide) (by decide) (by decide) (by decide))).mono (by omega)
      · unfold Mis
        rw [fin 391 (by decide) (by decide) (by decide) (by decide) (by decide) (by decide) (by decide) (by decide) (by decide) (by decide), fin 398 (by decide) (by decide) (by decide) (by decide) (by decide) (by decide) (by decide) (by decide) (by decide) (by decide)]
        exact hR.2.2.2.2
    · have hA : L_street σ = some (nI 2, σ2) := by
        unfold L_street
        rw [eA, e1, bd2_s, if_neg (by decide), e92, if_neg (show ¬ nI v.texts < 12 from nI_nlt (b := 12) (by omega) (by omega)), bdx2_r]
        rfl
      obtain ⟨ρ1, ρ0, q1, q2, q3, q4, q5, q6, q7, q8⟩ := ref σ2 (fr 404 (by decide) (by decide) (by decide) (by decide) (by decide)) (fr 399 (by decide) (by decide) (by decide) (by decide) (by decide)) (fr 400 (by decide) (by decide) (by decide) (by decide) (by decide))
      obtain ⟨y, σx, ax, s1, s2, s9, s3, s4, s5, s6, s7⟩ := (m_readSt q5).1 v2 hp
      rw [← q6] at s1
      have p12 : PA σx ax 0 399 12 = -1 := by rw [pa_o (by decide) (by decide)]; exact s3
      have g0 : PA σx ax 0 400 0 = nI v.texts := by rw [pa_n (by decide), s5.texts, hts]
      refine back (nI 2) σ2 ρ0 (PA σx ax 0) n2 hA ?_ (fun c c1 c2 c3 c4 c5 _ => fr c c1 c2 c3 c4 c5) (by rw [h9 1 (by decide) (by decide), z1]) q3 q4 (fun c c1 c2 => by rw [pa_n c1, s7 c c2]) (fun i hi => by rw [pa_n (by decide), s5.txt i (by omega), htx]; exact (M.txt i (by omega)).symm) (by rw [h4, p12]) (by rw [pa_o (by decide) (by decide), s7 399 (by decide), q7]) (fun i hi => by rw [pa_o (by omega) (by omega), s7 399 (by decide), q8 i (by omega)])
      unfold X12_street X12_street_43
      rw [q1, bd_s, q2, bd_s, s1, bd2_s, if_pos p12, show (0 : Int32) = nI 0 from rfl, m_at (by omega), bd_s, g0, if_pos (show nI v.texts = 12 by rw [show v.texts = 12 by omega]; rfl), pu_s, bd_s, st_at, if_neg (by decide)]; rfl
end STREET5

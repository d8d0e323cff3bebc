/-! the law is told: component and reference -/
section LAW3
variable {σ σ0 σ1 σ2 ρ : Mem} {v : View} {L : Lw} {b : Nat → Int32} {bN : Nat → Nat} {T N j : Nat} {x1 x2 x3 x4 x5 : Int32}
/-- the letters: those told, behind them what the tape of the law holds -/
def letB (σ : Mem) (bN : Nat → Nat) (T : Nat) : Nat → Int32 := fun k => if k < T then nI (bN k) else σ 400 (488 + k)
theorem txt_inv (hC : Core (1000 * j) σ v L) (hR : Rest (1000 * j) σ v.txt) (f : ∀ c, c ≠ 1 → c ≠ 4 → c ≠ 6 → c ≠ 8 → (c < 30 ∨ 51 ≤ c) → (c < 85 ∨ 98 ≤ c) → c ≠ 399 → c ≠ 402 → c ≠ 405 → c ≠ 411 → σ2 c = σ c) (g1 : σ2 1 1 = nI 0) (g2 : σ2 399 8 = nI 0) (g3 : σ2 1 6 = σ2 399 12) (g4 : ∀ i, i = 3 ∨ i = 6 → σ2 399 i = σ 399 i) (g5 : BO σ2) : Inv (j + 1) σ2 := by
  obtain ⟨h1, h2, h3, h4, h5⟩ := hR
  obtain ⟨c1, c2, c3, c4, c5, c6⟩ := hC
  have F : ∀ c, c ≠ 1 → (c < 4 ∨ 9 ≤ c) → (c < 30 ∨ 51 ≤ c) → (c < 85 ∨ 98 ≤ c) → (c < 399 ∨ c = 400 ∨ c = 401 ∨ c = 403 ∨ c = 404) → σ2 c = σ c := fun c q1 q2 q3 q4 q5 => f c q1 (by omega) (by omega) (by omega) q3 q4 (by omega) (by omega) (by omega) (by omega)
  refine ⟨v, L, ⟨c1, (c2.move fun c q1 q2 => F c (by omega) (by omega) (by omega) (by omega) (by omega)).mono (by omega), by rw [F 400 (by omega) (by omega) (by omega) (by omega) (by omega)]; exact c3, c4.move fun c q1 q2 => F c (by omega) (by omega) (by omega) (by omega) (by omega), c5, by rw [F 72 (by omega) (by omega) (by omega) (by omega) (by omega)]; exact c6⟩, g5, ⟨⟨0, by omega, g1, g2, fun k hk => absurd hk (by omega)⟩, g3⟩, (h3.move (fun c q1 q2 => F c (by omega) (by omega) (by omega) (by omega) (by omega)) (g4 6 (by omega)) (F 403 (by omega) (by omega) (by omega) (by omega) (by omega))).mono (by omega), (h4.move (F 0 (by omega) (by omega) (by omega) (by omega) (by omega)) (fun c hc => F c (by omega) (by omega) (by omega) (by omega) (by omega)) (g4 3 (by omega)) (F 401 (by omega) (by omega) (by omega) (by omega) (by omega))).mono (by omega), ?_⟩
  unfold Mis
  rw [F 391 (by omega) (by omega) (by omega) (by omega) (by omega), F 398 (by omega) (by omega) (by omega) (by omega) (by omega)]
  exact h5
theorem g_rdL {α : Type} {line : α → Nat → PR α} {mx : Nat} (hl : ∀ a p, p ≤ T → (line a p).1 ≤ T) : ∀ (f k : Nat) (a : α) (p : Nat), p ≤ T → (rdL b T line mx f k a p).1 ≤ T := by
  intro f
  induction f with
  | zero => intro k a p hp; exact hp
  | succ f ih =>
    intro k a p hp
    rw [rdL_s]
    by_cases c : k = mx
    · rw [if_pos c]; exact hp
    · rw [if_neg c]
      have g := hl a p hp
      cases hr : (line a p).2 with
      | none => unfold prB; rw [hr]; exact g
      | some a2 =>
        unfold prB
        rw [hr]
        show (tlL b T line mx f (k + 1) a2 (line a p).1).1 ≤ T
        unfold tlL
        split
        · exact g
        · split
          · exact ih _ _ _ (nx_gt (b := b) (by omega)).2
          · exact g
theorem g_all {α : Type} {line : α → Nat → PR α} {mx : Nat} {a : α} (hl : ∀ a p, p ≤ T → (line a p).1 ≤ T) : (rdAll b T line mx a).1 ≤ T := by
  have h := (skp_le (b := b) (T := T) (Nat.zero_le _)).2
  unfold rdAll
  split
  · exact h
  · exact g_rdL hl _ _ _ _ h
theorem m_begins : ∃ ρ0, X12_begins ρ = some ρ0 ∧ (∀ c, c ≠ 399 → ρ0 c = ρ c) ∧ ρ0 399 12 = oI none ∧ ρ0 399 9 = oI none ∧ ρ0 399 10 = ρ 399 8 ∧ ρ0 399 8 = nI 0 ∧ ρ0 399 11 = nI 0 ∧ ρ0 399 13 = nI 0 ∧ ∀ i, i < 8 ∨ 14 ≤ i → ρ0 399 i = ρ 399 i := by
  unfold X12_begins
  rw [pu_s, bd_s, pu_s, bd_s, pu_s, bd_s, pu_s, bd_s, pu_s, bd_s, pu_s, bd_s]
  refine ⟨_, rfl, fun c hc => by rw [st_n hc, st_n hc, st_n hc, st_n hc, st_n hc, st_n hc], ?_, ?_, ?_, ?_, ?_, ?_, fun i hi => ?_⟩
  · rw [st_at' (by decide), st_at' (by decide), st_at' (by decide), st_at' (by decide), st_at' (by decide), st_at]; rfl
  · rw [st_at' (by decide), st_at' (by decide), st_at' (by decide), st_at' (by decide), st_at]; rfl
  · rw [st_at' (by decide), st_at' (by decide), st_at' (by decide), st_at, st_at' (by decide), st_at' (by decide)]
  · rw [st_at' (by decide), st_at' (by decide), st_at]; rfl
  · rw [st_at' (by decide), st_at]; rfl
  · rw [st_at]; rfl
  · rw [st_at' (by omega), st_at' (by omega), st_at' (by omega), st_at' (by omega), st_at' (by omega), st_at' (by omega)]
theorem SM.retell {a a2 : Nat → Int32} (W : WF v) (M : SM a v) (h : ∀ i, i ≠ 1 → i ≠ 2 → i < 488 → a2 i = a i) : SM a2 (v.w_txt a2) := by
  have h9 := W.n9
  have h6 := W.k6
  have hl := W.log
  unfold SM
  simp only [VR]
  refine ⟨by rw [h 0 (by omega) (by omega) (by omega)]; exact M.texts, by rw [h 3 (by omega) (by omega) (by omega)]; exact M.n, by rw [h 4 (by omega) (by omega) (by omega)]; exact M.k, by rw [h 5 (by omega) (by omega) (by omega)]; exact M.hour, by rw [h 6 (by omega) (by omega) (by omega)]; exact M.night, by rw [h 7 (by omega) (by omega) (by omega)]; exact M.fog, by rw [h 8 (by omega) (by omega) (by omega)]; exact M.mist, by rw [h 9 (by omega) (by omega) (by omega)]; exact M.logs, by rw [h 10 (by omega) (by omega) (by omega)]; exact M.seed, fun p hp => by rw [h _ (by omega) (by omega) (by omega)]; exact M.oil p hp, fun p hp => by rw [h _ (by omega) (by omega) (by omega)]; exact M.burn p hp, fun p hp => by rw [h _ (by omega) (by omega) (by omega)]; exact M.own p hp, fun p hp => by rw [h _ (by omega) (by omega) (by omega)]; exact M.dark p hp, fun p q hp hq => by rw [h _ (by omega) (by omega) (by omega)]; exact M.way p q hp hq, fun w hw => by rw [h _ (by omega) (by omega) (by omega)]; exact M.pl w hw, fun w hw => by rw [h _ (by omega) (by omega) (by omega)]; exact M.tp w hw, fun w hw => by rw [h _ (by omega) (by omega) (by omega)]; exact M.hd w hw, fun w hw => by rw [h _ (by omega) (by omega) (by omega)]; exact M.lt w hw, fun w o hw ho => by rw [h _ (by omega) (by omega) (by omega)]; exact M.like w o hw ho, fun i r hi => ?_, fun i _ => trivial⟩
  have hi2 : i < v.log.length := by
    apply Classical.byContradiction
    intro q
    rw [List.getElem?_eq_none (by omega)] at hi
    cases hi
  rw [h _ (by omega) (by omega) (by omega), h _ (by omega) (by omega) (by omega), h _ (by omega) (by omega) (by omega), h _ (by omega) (by omega) (by omega), h _ (by omega) (by omega) (by omega)]
  exact M.log i r hi
theorem m_law55 (hb : ∀ k, k < T → σ 404 k = b k) (hT : T ≤ 400) (h10 : σ 399 10 = nI T) {x : Int32} : ∃ σ2, X12_law_55 FU x 0 σ = some (x, σ2) ∧ (∀ c, c ≠ 399 → c ≠ 400 → σ2 c = σ c) ∧ (∀ i, i ≠ 6 → σ2 399 i = σ 399 i) ∧ σ2 399 6 = 0 ∧ ∀ i, σ2 400 i = if 488 ≤ i ∧ i < 488 + T then b (i - 488) else σ 400 i := by
  rw [show (0 : Int32) = nI 0 from rfl]
  refine loop_P (L := fun f (a : Mem) i => X12_law_55 f x i a) (P := fun i a => (∀ c, c ≠ 400 → a c = σ c) ∧ ∀ q, a 400 q = if 488 ≤ q ∧ q < 488 + i then b (q - 488) else σ 400 q) (Q := fun r => ∃ σ2, r = some (x, σ2) ∧ (∀ c, c ≠ 399 → c ≠ 400 → σ2 c = σ c) ∧ (∀ i, i ≠ 6 → σ2 399 i = σ 399 i) ∧ σ2 399 6 = 0 ∧ ∀ i, σ2 400 i = if 488 ≤ i ∧ i < 488 + T then b (i - 488) else σ 400 i) (n := T) (a := σ) (fun f a hP => ?_) (fun f a i hi hP => Or.inr ?_) (Nat.zero_le _) (FUb (by omega)) ⟨fun _ _ => rfl, fun q => by rw [if_neg (by omega)]⟩
  · obtain ⟨p1, p2⟩ := hP
    rw [X12_law_55, p1 399 (by decide), h10, if_pos (nI_le (Nat.le_refl _) (by omega)), pu_s, bd_s]
    exact ⟨_, rfl, fun c c1 c2 => by rw [st_n c1, p1 c c2], fun i hi => by rw [st_at' hi, p1 399 (by decide)], st_at, fun i => by rw [st_n (by decide)]; exact p2 i⟩
  · obtain ⟨p1, p2⟩ := hP
    have l4 : ln 404 = 400 := by decide +kernel
    refine ⟨st a 400 (488 + i) (b i), ?_, fun c hc => by rw [st_n hc, p1 c hc], fun q => ?_⟩
    · rw [X12_law_55, p1 399 (by decide), h10, if_neg (nI_ge hi (by omega)), ag_nI (by rw [l4]; omega) (by omega), bd_s, p1 404 (by decide), hb i hi, show (488 : Int32) = nI 488 from rfl, nI_add, m_set (by omega), bd_s, nI_1]
    · by_cases e : q = 488 + i
      · subst e; rw [st_at, if_pos (by omega), show 488 + i - 488 = i by omega]
      · rw [st_at' e, p2 q]
        by_cases c : 488 ≤ q ∧ q < 488 + i
        · rw [if_pos c, if_pos (by omega)]
        · rw [if_neg c, if_neg (by omega)]
theorem r_3 (hC : Core (1000 * j) σ v L) (hR : Rest (1000 * j) σ v.txt) : ∃ σ3, lw_3 x1 x2 x3 x4 x5 σ = some (true, σ3) ∧ Inv (j + 1) σ3 := by
  obtain ⟨W, R, M, K, KT, Kl⟩ := id hC
  obtain ⟨T, bN, t1, t2, t3, t4⟩ := hR.2.1.byts
  have bT : ∀ k, k < T → letB σ bN T k = nI (bN k) := fun k hk => if_pos hk
  have hLC : LetC σ (letB σ bN T) T := ⟨t1, fun k hk => by rw [bT k hk]; exact (t4 k hk).1⟩
  generalize hbb : letB σ bN T = b at bT hLC
  obtain ⟨σ1, N, a1, a2, a3, a4⟩ := e_scan hLC t2
  generalize hτ : st (st σ1 85 0 0) 85 5 0 = τ0
  have f0 : ∀ c, c ≠ 85 → τ0 c = σ1 c := fun c hc => by rw [← hτ, st_n hc, st_n hc]
  have z0 : ∀ i, i ≠ 5 → i ≠ 6 → i ≠ 1 → τ0 1 i = σ 1 i := fun i i1 i2 i3 => by rw [f0 1 (by decide), a3, st_at' i2, st_at' i1, st_at' i3]
  have z1 : τ0 1 1 = nI 0 := by rw [f0 1 (by decide), a3, st_at' (by decide), st_at' (by decide), st_at]; rfl
  have k0 : KL τ0 b T N [] 0 0 τ0 := by
    refine ⟨a2.move (f0 4 (by decide)) (f0 6 (by decide)) (f0 8 (by decide)), ?_, Nat.zero_le _, ?_, ⟨Or.inl ?_, by decide, ?_, by decide, fun i l h => by rw [List.getElem?_nil] at h; exact (nomatch h)⟩, ?_, rfl, Nat.zero_le _, fun _ _ _ => rfl, fun _ _ _ => rfl⟩
    · rw [f0 1 (by decide), a3, st_at' (by decide), st_at]; rfl
    · rw [f0 1 (by decide), a3, st_at]
    · rw [← hτ, st_at' (by decide), st_at]; rfl
    · rw [← hτ, st_at]; rfl
    · rw [← hτ, st_at' (by decide), st_at]; rfl
  have hres := e_readLaw k0
  have eA : X11_law σ = bd2 (X4_readAll 85 τ0) fun r22 σ22 => if r22 = 0 then some (.inr 2, σ22) else bd (X3_copyFrom 72 85 σ22) fun σ46 => bd (X2_forget σ46) fun σ53 => some (.inl (σ53 72 0), σ53) := by
    unfold X11_law X3_begin
    rw [a1, bd_s, pu_s, bd_s, pu_s, bd_s, bd_s, hτ]
  -- the reference, over a memory that keeps what it reads
  have ref : ∀ ρ : Mem, ρ 404 = σ 404 → ρ 399 = σ 399 → ρ 400 = σ 400 → ∃ ρ0 F, X12_begins ρ = some ρ0 ∧ (∀ c, c ≠ 399 → ρ0 c = ρ c) ∧ LetR ρ0 b T ∧ ρ0 399 12 = oI none ∧ FM ρ0 F ∧ ρ0 399 11 = nI 0 ∧ ρ0 399 13 = nI 0 ∧ (∃ o, ρ0 399 17 = b2i o) ∧ ρ0 399 8 = nI 0 ∧ ∀ i, i < 8 ∨ 14 ≤ i → ρ0 399 i = σ 399 i := by
    intro ρ e1 e2 e3
    obtain ⟨ρ0, q1, q2, q3, q4, q5, q6, q7, q8, q9⟩ := m_begins (ρ := ρ)
    rw [e2] at q5 q9
    obtain ⟨o15, ho15⟩ := hR.1.1
    obtain ⟨o17, ho17⟩ := hR.1.2
    refine ⟨ρ0, fun i => if i = 0 then ρ0 405 1 else if i = 1 then ρ0 405 0 else if i = 7 then ρ0 399 15 else if i = 8 then ρ0 400 8 else ρ0 405 i, q1, q2, ⟨t1, by rw [q5]; exact t3, Or.inl ⟨q4, fun k hk => by rw [q2 404 (by decide), e1, bT k hk]; exact (t4 k hk).2.1⟩⟩, q3, ⟨rfl, rfl, rfl, rfl, rfl, rfl, rfl, ⟨o15, ?_, ?_⟩, v.mist, ?_, ?_⟩, q7, q8, ⟨o17, by rw [q9 17 (by omega)]; exact ho17⟩, q6, q9⟩
    · show ρ0 399 15 = _; rw [q9 15 (by omega)]; exact ho15
    · rw [q9 15 (by omega)]; exact ho15
    · show ρ0 400 8 = _; rw [q2 400 (by decide), e3]; exact M.mist
    · rw [q2 400 (by decide), e3]; exact M.mist
  cases hp : (parseLaw b T).2 with
  | none =>
    obtain ⟨σ2, e1, e2, e3, e4⟩ := hres.2 hp
    have fr : ∀ c, c ≠ 1 → c ≠ 4 → c ≠ 6 → c ≠ 8 → (c < 85 ∨ 98 ≤ c) → σ2 c = σ c := fun c c1 c2 c3 c4 c5 => by rw [e3 c c1 c5, f0 c (by omega), a4 c c1 c2 c3 c4]
    have hA : L_law σ = some (nI 1, σ2) := by
      unfold L_law
      rw [eA, e1, bd2_s, if_pos rfl, bdx2_r]
      exact hx_1
    obtain ⟨ρ0, F, q1, q2, q3, q4, q5, q6, q7, ⟨o17, q8⟩, q9, q10⟩ := ref σ2 (fr 404 (by decide) (by decide) (by decide) (by decide) (by decide)) (fr 399 (by decide) (by decide) (by decide) (by decide) (by decide)) (fr 400 (by decide) (by decide) (by decide) (by decide) (by decide))
    obtain ⟨r, σ3, s1, s2⟩ := (m_readLaw q3 q4 q5 (k0 := ρ0 399 16) (ps0 := o17) q6 q7 rfl q8).2 hp
    have hfault : (parseLaw b T).1 ≤ T := g_all (fun L p hp => by
      unfold lawLine
      have g := g_line (b := b) (T := T) hp
      cases hr : (lpLine b T p).2 with
      | none => unfold prB; rw [hr]; exact g
      | some l => unfold prB; rw [hr]; exact g)
    have hf := s2.is (by omega)
    obtain ⟨u1, u2, u3, u4, u5, u6⟩ := s2
    have u400 : σ3 400 = ρ0 400 := by funext i; exact u5 i (by omega)
    have hB : X12_law σ2 = some (nI 0, st σ3 399 0 (nI 1)) := by
      unfold X12_law X12_law_24
      rw [q1, bd_s, s1, bd2_s, if_neg (fun q => hf.mp q), pu_s, bd_s, st_at, if_neg (by decide)]; rfl
    refine roadI (Bf := fun τ => X12_law τ) hA hB st_at (fun h => absurd h n0) (txt_inv hC hR (fun c c1 c2 c3 c4 c5 c6 c7 c8 c9 c10 => ?_) ?_ ?_ ?_ (fun i hi => ?_) ?_)
    · rw [st_n c7]
      by_cases c400 : c = 400
      · rw [c400, u400, q2 400 (by decide), fr 400 (by decide) (by decide) (by decide) (by decide) (by decide)]
      · rw [u3 c c7 c400, q2 c c7, fr c c1 c2 c3 c4 c6]
    · rw [st_n (by decide), u3 1 (by decide) (by decide), q2 1 (by decide), e4 1 (by decide) (by decide), z1]
    · rw [st_at' (by decide), u4 8 (by omega), q9]
    · rw [st_n (by decide), u3 1 (by decide) (by decide), q2 1 (by decide), e2, st_at' (by decide), u1]
    · rw [st_at' (by omega), u4 i (by omega), q10 i (by omega)]
    · refine BO.th ⟨?_, ?_⟩
      · obtain ⟨o, ho⟩ := hR.1.1
        exact ⟨o, by rw [u4 15 (by omega), q10 15 (by omega)]; exact ho⟩
      · rcases u6 with h | h
        · exact ⟨o17, by rw [h, q8]⟩
        · exact h
  | some L2 =>
    obtain ⟨σ2, k, j2, e1, h1, h2, h3, h4, h5, h6, h7, h8, h9, h10⟩ := hres.1 L2 hp
    have fr : ∀ c, c ≠ 1 → c ≠ 4 → c ≠ 6 → c ≠ 8 → (c < 85 ∨ 98 ≤ c) → σ2 c = σ c := fun c c1 c2 c3 c4 c5 => by rw [h9 c c1 c5, f0 c (by omega), a4 c c1 c2 c3 c4]
    obtain ⟨σ3, r1, r2, r3, r4⟩ := e_copyLaw (C := 72) (D := 85) rfl (by decide +kernel) (Or.inl (by decide)) h5
    generalize hρ : st (st σ3 111 2 0) 411 0 (nI L2.length) = ρ
    have hA : L_law σ = some (nI 0, ρ) := by
      unfold L_law
      rw [eA, e1, bd2_s, if_neg (by decide), r1, bd_s]
      unfold X2_forget
      rw [pu_s, bd_s, bd_s, st_n (by decide), r3, h6, bdx2_l, hρ]; rfl
    have fρ : ∀ c, c ≠ 1 → c ≠ 4 → c ≠ 6 → c ≠ 8 → (c < 72 ∨ 98 ≤ c) → c ≠ 111 → c ≠ 411 → ρ c = σ c := fun c c1 c2 c3 c4 c5 c6 c7 => by rw [← hρ, st_n c7, st_n c6, r4 c (by omega), fr c c1 c2 c3 c4 (by omega)]
    obtain ⟨ρ0, F, q1, q2, q3, q4, q5, q6, q7, ⟨o17, q8⟩, q9, q10⟩ := ref ρ (fρ 404 (by decide) (by decide) (by decide) (by decide) (by decide) (by decide) (by decide)) (fρ 399 (by decide) (by decide) (by decide) (by decide) (by decide) (by decide) (by decide)) (fρ 400 (by decide) (by decide) (by decide) (by decide) (by decide) (by decide) (by decide))
    obtain ⟨a, s1⟩ := (m_readLaw q3 q4 q5 (k0 := ρ0 399 16) (ps0 := o17) q6 q7 rfl q8).1 L2 hp
    generalize hσ4 : PA (KP ρ0 (Lw.will F L2 (ρ0 399 16)) (o17 || Lw.pass F L2)) a 0 = σ4 at s1
    have p4 : ∀ c, c ≠ 399 → σ4 c = ρ0 c := fun c hc => by rw [← hσ4, pa_n hc, kp_n hc]
    have p9 : ∀ i, i ≠ 11 → i ≠ 13 → i ≠ 16 → i ≠ 17 → σ4 399 i = ρ0 399 i := fun i i1 i2 i3 i4 => by rw [← hσ4, pa_o i1 i2, kp_o i3 i4]
    have p17 : σ4 399 17 = b2i (o17 || Lw.pass F L2) := by rw [← hσ4, pa_o (by decide) (by decide), kp_p]
    have hlen : L2.length ≤ 12 := h5.2.1
    generalize hσ5 : st (st (st σ4 399 0 0) 400 1 (nI L2.length)) 400 2 (nI T) = σ5
    have p5 : ∀ c, c ≠ 399 → c ≠ 400 → σ5 c = ρ c := fun c c1 c2 => by rw [← hσ5, st_n c2, st_n c2, st_n c1, p4 c c1, q2 c c1]
    have p59 : ∀ i, i ≠ 0 → i ≠ 11 → i ≠ 13 → i ≠ 16 → i ≠ 17 → σ5 399 i = ρ0 399 i := fun i i0 i1 i2 i3 i4 => by rw [← hσ5, st_n (by decide), st_n (by decide), st_at' i0, p9 i i1 i2 i3 i4]
    obtain ⟨σ6, w1, w2, w3, w4, w5⟩ := m_law55 (σ := σ5) (b := b) (T := T) (x := nI L2.length) (fun k hk => by rw [p5 404 (by decide) (by decide), fρ 404 (by decide) (by decide) (by decide) (by decide) (by decide) (by decide) (by decide), bT k hk]; exact (t4 k hk).2.1) t1 (by rw [p59 10 (by decide) (by decide) (by decide) (by decide) (by decide)]; exact q3.2.1)
    have hB : X12_law ρ = some (nI L2.length, σ6) := by
      unfold X12_law X12_law_24
      rw [q1, bd_s, s1, bd2_s, if_pos (show σ4 399 12 = -1 by rw [p9 12 (by decide) (by decide) (by decide) (by decide)]; exact q4), pu_s, bd_s, st_at, if_pos (by decide), show (1 : Int32) = nI 1 from rfl, m_set (by omega), bd_s, st_n (by decide), st_at' (by decide), p9 10 (by decide) (by decide) (by decide) (by decide), q3.2.1, show (2 : Int32) = nI 2 from rfl, m_set (by omega), bd_s, hσ5]
      exact w1
    have g400 : ∀ i, σ6 400 i = if i = 1 then nI L2.length else if i = 2 then nI T else if 488 ≤ i ∧ i < 488 + T then b (i - 488) else σ 400 i := by
      intro i
      have e5 : σ5 400 i = if i = 1 then nI L2.length else if i = 2 then nI T else σ 400 i := by
        rw [← hσ5]
        by_cases e2 : i = 2
        · subst e2; rw [st_at]; rfl
        · rw [st_at' e2]
          by_cases e1 : i = 1
          · subst e1; rw [st_at]; rfl
          · rw [st_at' e1, st_n (by decide), p4 400 (by decide), q2 400 (by decide), fρ 400 (by decide) (by decide) (by decide) (by decide) (by decide) (by decide) (by decide), if_neg e1, if_neg e2]
      rw [w5 i, e5]
      by_cases e1 : i = 1
      · rw [if_neg (by omega), if_pos e1, if_pos e1]
      · rw [if_neg e1, if_neg e1]
        by_cases e2 : i = 2
        · rw [if_neg (by omega), if_pos e2, if_pos e2]
        · rw [if_neg e2, if_neg e2]
    have fin : ∀ c, c ≠ 1 → c ≠ 4 → c ≠ 6 → c ≠ 8 → (c < 72 ∨ 98 ≤ c) → c ≠ 111 → c ≠ 399 → c ≠ 400 → c ≠ 411 → σ6 c = σ c := fun c c1 c2 c3 c4 c5 c6 c7 c8 c9 => by rw [w2 c c7 c8, p5 c c7 c8, fρ c c1 c2 c3 c4 c5 c6 c9]
    have fin9 : ∀ i, i ≠ 0 → i ≠ 6 → (i < 8 ∨ i = 15) → σ6 399 i = σ 399 i := fun i i0 i6 i1 => by rw [w3 i i6, p59 i i0 (by omega) (by omega) (by omega) (by omega), q10 i (by omega)]
    have f1 : σ6 1 = σ2 1 := by rw [w2 1 (by decide) (by decide), p5 1 (by decide) (by decide), ← hρ, st_n (by decide), st_n (by decide), r4 1 (by omega)]
    have f72 : ∀ c, 72 ≤ c → c < 85 → σ6 c = σ3 c := fun c c1 c2 => by rw [w2 c (by omega) (by omega), p5 c (by omega) (by omega), ← hρ, st_n (by omega), st_n (by omega)]
    refine roadI (Bf := fun τ => X12_law τ) hA hB ?_ (fun _ => ?_) ⟨v.w_txt (σ6 400), L2, ⟨?_, ?_, SM.retell W M (fun i i1 i2 i3 => by rw [g400, if_neg i1, if_neg i2, if_neg (by omega)]), r2.move (fun c c1 c2 => f72 c (by omega) (by omega)), ?_, ?_⟩, ⟨?_, ?_⟩, ⟨⟨0, by omega, ?_, ?_, fun k hk => absurd hk (by omega)⟩, ?_⟩, ?_, ?_, ?_⟩
    · rw [w3 0 (by decide), ← hσ5, st_n (by decide), st_n (by decide), st_at]; rfl
    · rw [w2 411 (by decide) (by decide), p5 411 (by decide) (by decide), ← hρ, st_at]
    · unfold WF at W ⊢; simp only [VR]; exact W
    · have R2 : SC σ6 9 v (1000 * j) := R.move fun c c1 c2 => fin c (by omega) (by omega) (by omega) (by omega) (by omega) (by omega) (by omega) (by omega) (by omega)
      refine SC.mono ?_ (show 1000 * j ≤ 1000 * (j + 1) by omega)
      unfold SC at R2 ⊢; simp only [VR]; exact R2
    · simp only [VR]
      refine ⟨fun i hi => ?_, ?_⟩
      · rw [g400, if_neg (by omega), if_neg (by omega), if_neg (by omega), M.txt i (by omega)]; exact KT.1 i hi
      · by_cases hz : 1 ≤ L2.length
        · refine Or.inl ⟨T, t1, ?_, hz, ?_, ?_⟩
          · rw [g400, if_neg (by decide), if_pos rfl]
          · rw [g400, if_pos rfl]
          · have : (fun k => σ6 400 (488 + k)) = b := by
              funext k
              rw [g400, if_neg (by omega), if_neg (by omega)]
              by_cases c : k < T
              · rw [if_pos (by omega), show 488 + k - 488 = k by omega]
              · rw [if_neg (by omega), ← hbb]
                unfold letB
                rw [if_neg c]
            rw [this]; exact hp
        · have : L2 = [] := by
            cases L2 with
            | nil => rfl
            | cons a l => simp only [List.length_cons] at hz; omega
          refine Or.inr ⟨this, Or.inl ?_⟩
          rw [g400, if_pos rfl, this]; rfl
    · simp only [VR]
      rw [f72 72 (by omega) (by omega), r3, h6, g400, if_pos rfl]
    · obtain ⟨o, ho⟩ := hR.1.1
      exact ⟨o, by rw [fin9 15 (by decide) (by decide) (by omega)]; exact ho⟩
    · exact ⟨_, by rw [w3 17 (by decide), ← hσ5, st_n (by decide), st_n (by decide), st_at' (by decide), p17]⟩
    · rw [f1, h10 1 (by decide) (by decide), z1]
    · rw [w3 8 (by decide), p59 8 (by decide) (by decide) (by decide) (by decide) (by decide), q9]
    · rw [f1, h4, w3 12 (by decide), p59 12 (by decide) (by decide) (by decide) (by decide) (by decide), q4]; rfl
    · obtain ⟨nx, K0, b1, b2, b3, b4, b5, b6⟩ := hR.2.2.1
      refine ⟨nx, 0, b1, by omega, ?_, ?_, w4, fun i hi => absurd hi (by omega)⟩
      · rw [w2 111 (by decide) (by decide), p5 111 (by decide) (by decide), ← hρ, st_n (by decide), st_at' (by decide), r4 111 (by omega), fr 111 (by decide) (by decide) (by decide) (by decide) (by decide)]; exact b3
      · rw [w2 111 (by decide) (by decide), p5 111 (by decide) (by decide), ← hρ, st_n (by decide), st_at]; rfl
    · exact (hR.2.2.2.1.move (fin 0 (by decide) (by decide) (by decide) (by decide) (by decide) (by decide) (by decide) (by decide) (by decide)) (fun c hc => fin c (by omega) (by omega) (by omega) (by omega) (by omega) (by omega) (by omega) (by omega) (by omega)) (fin9 3 (by decide) (by decide) (by omega)) (fin 401 (by decide) (by decide) (by decide) (by decide) (by decide) (by decide) (by decide) (by decide) (by decide))).mono (by omega)
    · unfold Mis
      rw [fin 391 (by decide) (by decide) (by decide) (by decide) (by decide) (by decide) (by decide) (by decide) (by decide), fin 398 (by decide) (by decide) (by decide) (by decide) (by decide) (by decide) (by decide) (by decide) (by decide)]
      exact hR.2.2.2.2
end LAW3

/-! the component reads the law -/
def FrK0 (n0 : Nat) (σ0 σ : Mem) : Prop := (∀ c, c ≠ 1 → c ≠ 85 → c ≠ 93 → σ c = σ0 c) ∧ (∀ i, i ≠ 5 → i ≠ 6 → σ 1 i = σ0 1 i) ∧ (∀ i, i ≠ 5 → σ 85 i = σ0 85 i)
def KS (n0 : Nat) (σ0 σ : Mem) (b : Nat → Int32) (T N j : Nat) (c : List Int32) : Prop := Tok σ b T N ∧ σ 1 5 = nI j ∧ j ≤ N ∧ σ 1 6 = -1 ∧ σ 85 5 = nI (n0 + c.length) ∧ (∀ i x, c[i]? = some x → σ 93 (n0 + i) = x) ∧ (∀ i, i < n0 → σ 93 i = σ0 93 i) ∧ FrK0 n0 σ0 σ
def CLR (n0 : Nat) (σ0 : Mem) (b : Nat → Int32) (T N : Nat) (c : List Int32) (K : Mem → Option (Int32 × Mem)) (r : Option (Int32 × Mem)) (pr : PR (List Int32)) : Prop :=
  (∀ c2, pr.2 = some c2 → ∃ σ2 j2, r = K σ2 ∧ ps b T j2 = pr.1 ∧ KS n0 σ0 σ2 b T N j2 (c ++ c2)) ∧ (pr.2 = none → ∃ σ2, r = some (0, σ2) ∧ σ2 1 6 = nI pr.1 ∧ FrK0 n0 σ0 σ2)
section CLAW
variable {σ σ0 σ1 σ2 : Mem} {b : Nat → Int32} {T N j n0 : Nat} {c : List Int32} {x1 x2 : Int32}
theorem ln93 : ln 93 = 400 := by decide +kernel
theorem KS.now (h : KS n0 σ0 σ b T N j c) {k : Nat} (hk : k ≤ N) : KS n0 σ0 (st σ 1 5 (nI k)) b T N k c := by
  obtain ⟨h1, h2, h3, h4, h5, h6, h7, h8, h9, h10⟩ := h
  exact ⟨h1.move (st_n (by decide)) (st_n (by decide)) (st_n (by decide)), st_at, hk, by rw [st_at' (by decide)]; exact h4, by rw [st_n (by decide)]; exact h5, fun i x hx => by rw [st_n (by decide)]; exact h6 i x hx, fun i hi => by rw [st_n (by decide)]; exact h7 i hi, fun c c1 c2 c3 => by rw [st_n c1]; exact h8 c c1 c2 c3, fun i i1 i2 => by rw [st_at' i1]; exact h9 i i1 i2, fun i hi => by rw [st_n (by decide)]; exact h10 i hi⟩
theorem KS.bad (h : KS n0 σ0 σ b T N j c) {f : Nat} : (st σ 1 6 (nI f)) 1 6 = nI f ∧ FrK0 n0 σ0 (st σ 1 6 (nI f)) := by
  obtain ⟨h1, h2, h3, h4, h5, h6, h7, h8, h9, h10⟩ := h
  exact ⟨st_at, fun c c1 c2 c3 => by rw [st_n c1]; exact h8 c c1 c2 c3, fun i i1 i2 => by rw [st_at' i2]; exact h9 i i1 i2, fun i hi => by rw [st_n (by decide)]; exact h10 i hi⟩
theorem KS.next (h : KS n0 σ0 σ b T N j c) (ht : term b T (ps b T j) ≠ 1) : KS n0 σ0 (st σ 1 5 (nI (j + 1))) b T N (j + 1) c ∧ ps b T j < T := by
  obtain ⟨a1, a2⟩ := h.1.next h.2.2.1 ht
  exact ⟨h.now a1, a2⟩
theorem set_any {k : Nat} {i x : Int32} (h2 : ln (k + 1) < 2 ^ 31) : ∃ σ2, X6_set k i x σ = some σ2 ∧ ∀ c, c ≠ k + 1 → σ2 c = σ c := by
  unfold X6_set
  by_cases c1 : i < 0
  · exact ⟨σ, if_pos c1, fun _ _ => rfl⟩
  · rw [if_neg c1]
    by_cases c2 : nI (ln (k + 1)) ≤ i
    · exact ⟨σ, if_pos c2, fun _ _ => rfl⟩
    · rw [if_neg c2]
      obtain ⟨n, n1, rfl⟩ := nI_of c1
      have : n < ln (k + 1) := Nat.lt_of_not_le fun q => c2 (nI_le q n1)
      rw [au_nI this n1, bd_s]
      exact ⟨_, rfl, fun c hc => st_n hc⟩
theorem emit_any (h : FrK0 n0 σ0 σ) {x : Int32} : ∃ σ2, X3_emit 85 x σ = some σ2 ∧ FrK0 n0 σ0 σ2 ∧ σ2 1 = σ 1 := by
  obtain ⟨h8, h9, h10⟩ := h
  obtain ⟨τ, t1, t2⟩ := set_any (σ := σ) (k := 85 + 7) (i := σ 85 5) (x := x) (by decide +kernel)
  unfold X3_emit
  rw [t1, bd_s, pu_s, bd_s]
  refine ⟨_, rfl, ⟨fun c c1 c2 c3 => by rw [st_n c2, t2 c (by omega)]; exact h8 c c1 c2 c3, fun i i1 i2 => by rw [st_n (by decide), t2 1 (by decide)]; exact h9 i i1 i2, fun i hi => by rw [st_at' hi, t2 85 (by decide)]; exact h10 i hi⟩, by rw [st_n (by decide), t2 1 (by decide)]⟩
theorem e_emit (h : KS n0 σ0 σ b T N j c) (hl : n0 + c.length < 400) {x : Int32} : ∃ σ2, X3_emit 85 x σ = some σ2 ∧ KS n0 σ0 σ2 b T N j (c ++ [x]) := by
  obtain ⟨h1, h2, h3, h4, h5, h6, h7, h8, h9, h10⟩ := h
  unfold X3_emit
  rw [h5, e_set (B := 85 + 7) (show n0 + c.length < ln 93 by rw [ln93]; omega) (by decide +kernel), bd_s, st_n (by decide), h5, nI_1, pu_s, bd_s]
  refine ⟨_, rfl, h1.move (by rw [st_n (by decide), st_n (by decide)]) (by rw [st_n (by decide), st_n (by decide)]) (by rw [st_n (by decide), st_n (by decide)]), by rw [st_n (by decide), st_n (by decide)]; exact h2, h3, by rw [st_n (by decide), st_n (by decide)]; exact h4, by rw [st_at, List.length_append]; rfl, fun i y hy => ?_, fun i hi => by rw [st_n (by decide), st_at' (by omega)]; exact h7 i hi, fun c c1 c2 c3 => by rw [st_n c2, st_n (by omega)]; exact h8 c c1 c2 c3, fun i i1 i2 => by rw [st_n (by decide), st_n (by decide)]; exact h9 i i1 i2, fun i hi => by rw [st_at' hi, st_n (by decide)]; exact h10 i hi⟩
  rw [st_n (by decide)]
  by_cases e : i < c.length
  · rw [List.getElem?_append_left e] at hy
    rw [st_at' (by omega)]
    exact h6 i y hy
  · rw [List.getElem?_append_right (by omega)] at hy
    have : i - c.length = 0 := by
      apply Classical.byContradiction
      intro q
      rw [List.getElem?_eq_none (by simp only [List.length_cons, List.length_nil]; omega)] at hy
      cases hy
    rw [this] at hy
    cases hy
    rw [show i = c.length by omega, st_at]
theorem tFaN {t : Nat} (h1 : 1 ≤ t) (h2 : t ≤ 32) : tFa (nI t) = some (fctL.getD (t - 1) 0) := by
  unfold tFa
  rw [if_pos ⟨show (1 : Int32) ≤ nI t from nI_le (a := 1) h1 (by omega), show nI t ≤ 32 from nI_le (b := 32) h2 (by omega)⟩, nI_clamp (by omega)]
theorem fct_ : ∀ t, 1 ≤ t → t ≤ 32 → (10 ≤ t ∧ t ≤ 18 → fctL.getD (t - 1) 0 = nI (t - 10)) ∧ (¬ (10 ≤ t ∧ t ≤ 18) → fctL.getD (t - 1) 0 = -1) := by
  have : ∀ t, t ≤ 32 → 1 ≤ t → (10 ≤ t ∧ t ≤ 18 → fctL.getD (t - 1) 0 = nI (t - 10)) ∧ (¬ (10 ≤ t ∧ t ≤ 18) → fctL.getD (t - 1) 0 = -1) := by
    intro t ht
    have key : ∀ t, t < 33 → 1 ≤ t → (10 ≤ t ∧ t ≤ 18 → fctL.getD (t - 1) 0 = nI (t - 10)) ∧ (¬ (10 ≤ t ∧ t ≤ 18) → fctL.getD (t - 1) 0 = -1) := by decide +kernel
    exact key t (by omega)
  exact fun t h1 h2 => this t h2 h1
theorem isPart_s {t : Nat} (h1 : 1 ≤ t) (h2 : t ≤ 32) : X9_isPart σ (nI t) = some (b2i (decide (10 ≤ t ∧ t ≤ 16))) := by
  unfold X9_isPart
  rw [tFaN h1 h2, bd_s]
  by_cases c1 : 10 ≤ t ∧ t ≤ 18
  · rw [(fct_ t h1 h2).1 c1, if_neg (nI_pos (by omega)), bd_s]
    by_cases c2 : t ≤ 16
    · rw [if_neg (show ¬ (7 : Int32) ≤ nI (t - 10) from nI_ge (b := 7) (by omega) (by omega)), decide_eq_true ⟨c1.1, c2⟩]; rfl
    · rw [if_pos (show (7 : Int32) ≤ nI (t - 10) from nI_le (a := 7) (by omega) (by omega)), decide_eq_false (by omega)]; rfl
  · rw [(fct_ t h1 h2).2 c1, if_pos (by decide), decide_eq_false (by omega)]; rfl
theorem isYes_s {t : Nat} (h1 : 1 ≤ t) (h2 : t ≤ 32) : X9_isYesOrNo σ (nI t) = some (b2i (decide (t = 17 ∨ t = 18))) := by
  unfold X9_isYesOrNo
  rw [tFaN h1 h2, bd_s]
  by_cases c1 : 10 ≤ t ∧ t ≤ 18
  · rw [(fct_ t h1 h2).1 c1]
    by_cases c2 : t ≤ 16
    · rw [if_pos (show nI (t - 10) < 7 from nI_lt (b := 7) (by omega) (by omega)), decide_eq_false (by omega)]; rfl
    · rw [if_neg (show ¬ nI (t - 10) < 7 from nI_nlt (b := 7) (by omega) (by omega)), decide_eq_true (by omega)]; rfl
  · rw [(fct_ t h1 h2).2 c1, if_pos (by decide), decide_eq_false (by omega)]; rfl
theorem CLR.no {K : Mem → Option (Int32 × Mem)} {r : Option (Int32 × Mem)} {f : Nat} (h : ∃ σ2, r = some (0, σ2) ∧ σ2 1 6 = nI f ∧ FrK0 n0 σ0 σ2) : CLR n0 σ0 b T N c K r (f, none) := ⟨fun c2 e => (nomatch e), fun _ => h⟩
/-- a part of a sum -/
theorem e_part (h : KS n0 σ0 σ b T N j c) (hl : n0 + c.length ≤ ps b T j) {x fuel : Nat} (hx : x < 400) : CLR n0 σ0 b T N c (fun σ2 => X4_readSum_60 (X4_readSum_2 fuel) 85 (nI x) σ2) (X4_readSum_2 (fuel + 1) 85 (nI x) σ) (lpPart b T (ps b T j)) := by
  have hT := h.1.1
  have tr := term_rng (b := b) (T := T) (p := ps b T j)
  rw [X4_readSum_2, if_neg (show ¬ (400 : Int32) ≤ nI x from nI_ge (b := 400) hx (by omega)), k_term h.1 h.2.2.1 h.2.1, bd_s, gtT_s tr.1 tr.2, bd_s, isPart_s tr.1 tr.2, bd_s]
  unfold lpPart
  by_cases c1 : 10 ≤ term b T (ps b T j) ∧ term b T (ps b T j) ≤ 16
  · obtain ⟨k1, k2⟩ := h.next (by omega)
    rw [decide_eq_true c1, if_neg (show ¬ b2i true = 0 by decide), bd_s, tFaN tr.1 tr.2, bd_s, (fct_ _ tr.1 tr.2).1 ⟨c1.1, by omega⟩, if_pos c1, show (1000 : Int32) = nI 1000 from rfl, nI_add]
    obtain ⟨τ, t1, t2⟩ := e_emit h (x := nI (1000 + (term b T (ps b T j) - 10))) (by omega)
    have hj := (h.1.next h.2.2.1 (by omega)).1
    rw [t1, bd_s]
    unfold X10_step
    rw [t2.2.1, nI_1, pu_s, bd_s, bd_s]
    refine ⟨fun c2 e => ?_, fun e => nomatch e⟩
    cases e
    exact ⟨_, j + 1, rfl, rfl, t2.now hj⟩
  · rw [decide_eq_false c1, if_pos (show b2i false = 0 from rfl), k_upTo h.1 h.2.2.1 h.2.1, if_neg c1]
    by_cases c3 : term b T (ps b T j) = 3
    · obtain ⟨k1, k2⟩ := h.next (by omega)
      have hv := (val_I c3).2
      rw [if_pos ⟨c3, show nI (val b T (ps b T j)) ≤ 999 from nI_le (b := 999) hv (by omega)⟩, if_pos c3, bd2_s, if_pos (nI_pos' (by omega))]
      obtain ⟨τ, t1, t2⟩ := e_emit k1 (x := nI (val b T (ps b T j))) (by omega)
      rw [t1, bd_s]
      refine ⟨fun c2 e => ?_, fun e => nomatch e⟩
      cases e
      exact ⟨τ, j + 1, rfl, rfl, t2⟩
    · rw [if_neg (fun z => c3 z.1), if_neg c3, bd2_s, if_neg (by decide)]
      exact CLR.no ⟨_, rfl, h.bad⟩
theorem e_sumL {p0 : Nat} : ∀ (f fuel x j : Nat) (σ : Mem) (c cl : List Int32), T < ps b T j + f → T < ps b T j + fuel → x + 1 ≤ ps b T j → KS n0 σ0 σ b T N j (c ++ cl) → n0 + c.length ≤ p0 → cl.length + p0 ≤ ps b T j → CLR n0 σ0 b T N c (fun σ2 => some (1, σ2)) (X4_readSum_69 (X4_readSum_2 fuel) 85 (nI x) σ) (lpSumL b T f cl (ps b T j)) := by
  intro f
  induction f with
  | zero => intro fuel x j σ c cl h1 h2 h3 h; have := (ps_le (b := b) (T := T) j).1; omega
  | succ f ih =>
    intro fuel x j σ c cl h1 h2 h3 h h5 h6
    have hT := h.1.1
    unfold X4_readSum_69 lpSumL
    rw [show (7 : Int32) = nI 7 from rfl, k_take h.1 h.2.2.1 h.2.1 (by omega)]
    by_cases c1 : term b T (ps b T j) = 7
    · obtain ⟨k1, k2⟩ := h.next (by omega)
      have hn := nx_gt (b := b) k2
      obtain ⟨fuel, rfl⟩ : ∃ z, fuel = z + 1 := ⟨fuel - 1, by omega⟩
      have hps : ps b T (j + 1) = nx b T (ps b T j) := rfl
      have hm := e_part k1 (by rw [hps, List.length_append]; omega) (x := x + 1) (fuel := fuel) (by omega)
      have g := g_part (b := b) (T := T) (p := ps b T (j + 1)) (by rw [hps]; exact hn.2)
      rw [if_pos c1, if_pos c1, bd2_s, if_neg (by decide), nI_1]
      rw [hps] at hm g
      cases hr : (lpPart b T (nx b T (ps b T j))).2 with
      | none =>
        obtain ⟨σ2, e2, e3, e4⟩ := hm.2 hr
        unfold prB
        rw [hr]
        exact CLR.no ⟨σ2, e2, e3, e4⟩
      | some c2 =>
        obtain ⟨σ2, j2, e2, e3, e4⟩ := hm.1 c2 hr
        obtain ⟨g1, g2, g3, g4⟩ := g.2 c2 hr
        have gT := g.1
        unfold prB
        rw [hr, e2]
        show CLR n0 σ0 b T N c _ (X4_readSum_60 (X4_readSum_2 fuel) 85 (nI (x + 1)) σ2) _
        unfold X4_readSum_60
        rw [if_neg (show ¬ nI (x + 1) ≤ 0 from nI_ge (a := 0) (by omega) (by omega))]
        obtain ⟨τ, t1, t2⟩ := e_emit e4 (x := -1) (by rw [List.length_append, List.length_append]; omega)
        rw [t1, bd_s]
        have := ih fuel (x + 1) j2 τ c (cl ++ c2 ++ [-1]) (by omega) (by omega) (by omega) (by simpa [List.append_assoc] using t2) h5 (by simp only [List.length_append, List.length_cons, List.length_nil]; omega)
        rw [e3] at this
        exact this
    · rw [if_neg c1, if_neg c1, bd2_s, if_pos rfl]
      refine ⟨fun c2 e => ?_, fun e => nomatch e⟩
      cases e
      exact ⟨σ, j, rfl, rfl, h⟩
theorem e_sum (h : KS n0 σ0 σ b T N j c) (hl : n0 + c.length ≤ ps b T j) : CLR n0 σ0 b T N c (fun σ2 => some (1, σ2)) (X4_readSum 85 σ) (lpSum b T (ps b T j)) := by
  have hT := h.1.1
  have hle := (ps_le (b := b) (T := T) j).1
  unfold X4_readSum lpSum
  obtain ⟨fu, hfu⟩ : ∃ z, FU = z + 1 := ⟨99999, rfl⟩
  have hfu2 : fu = 99999 := by have : FU = 100000 := rfl; omega
  rw [hfu]
  have hm := e_part h hl (x := 0) (fuel := fu) (by omega)
  have g := g_part (b := b) (T := T) hle
  cases hr : (lpPart b T (ps b T j)).2 with
  | none =>
    obtain ⟨σ2, e2, e3, e4⟩ := hm.2 hr
    unfold prB
    rw [hr]
    exact CLR.no ⟨σ2, e2, e3, e4⟩
  | some c2 =>
    obtain ⟨σ2, j2, e2, e3, e4⟩ := hm.1 c2 hr
    obtain ⟨g1, g2, g3, g4⟩ := g.2 c2 hr
    have gT := g.1
    unfold prB
    rw [hr, show (0 : Int32) = nI 0 from rfl, e2]
    show CLR n0 σ0 b T N c _ (X4_readSum_60 (X4_readSum_2 fu) 85 (nI 0) σ2) _
    unfold X4_readSum_60
    rw [if_pos (show nI 0 ≤ 0 by decide)]
    have := e_sumL (p0 := ps b T j) 400 fu 0 j2 σ2 c c2 (by omega) (by omega) (by omega) e4 hl (by omega)
    rw [e3] at this
    exact this
theorem e_plain {rfC rfA : Nat → Int32 → Mem → Option (Int32 × Mem)} (h : KS n0 σ0 σ b T N j c) (hl : n0 + c.length ≤ ps b T j) (ht1 : term b T (ps b T j) ≠ 5) (ht2 : term b T (ps b T j) ≠ 30) : CLR n0 σ0 b T N c (fun σ2 => some (1, σ2)) (oX4_readAtom_41 rfC rfA 85 x2 σ) (lpPlain b T (ps b T j)) := by
  have hT := h.1.1
  have hle := (ps_le (b := b) (T := T) j).1
  have tr := term_rng (b := b) (T := T) (p := ps b T j)
  unfold oX4_readAtom_41 lpPlain
  rw [show (5 : Int32) = nI 5 from rfl, k_take h.1 h.2.2.1 h.2.1 (by omega), if_neg ht1, bd2_s, if_pos rfl, show (30 : Int32) = nI 30 from rfl, k_take h.1 h.2.2.1 h.2.1 (by omega), if_neg ht2, bd2_s, if_pos rfl, k_term h.1 h.2.2.1 h.2.1, bd_s, gtT_s tr.1 tr.2, bd_s, isYes_s tr.1 tr.2, bd_s]
  have one : ∀ t, term b T (ps b T j) = t → t = 17 ∨ t = 18 → CLR n0 σ0 b T N c (fun σ2 => some (1, σ2)) (bd (some (nI t)) fun r122 => bd (tFa r122) fun r125 => bd (X3_emit 85 ((1000 : Int32) + r125) σ) fun σ129 => bd (X10_step σ129) fun σ133 => bd (gb (1 : Int32)) fun _ => some ((1 : Int32), σ133)) (nx b T (ps b T j), some [nI (1000 + (t - 10))]) := by
    intro t e he
    obtain ⟨k1, k2⟩ := h.next (by omega)
    obtain ⟨τ, t1, t2⟩ := e_emit h (x := nI (1000 + (t - 10))) (by omega)
    have hj := (h.1.next h.2.2.1 (by omega)).1
    rw [bd_s, tFaN (by omega) (by omega), bd_s, (fct_ t (by omega) (by omega)).1 (by omega), show (1000 : Int32) = nI 1000 from rfl, nI_add, t1, bd_s]
    unfold X10_step
    rw [t2.2.1, nI_1, pu_s, bd_s, bd_s]
    refine ⟨fun c2 e => ?_, fun e => nomatch e⟩
    cases e
    exact ⟨_, j + 1, rfl, rfl, t2.now hj⟩
  by_cases c1 : term b T (ps b T j) = 17
  · rw [decide_eq_true (Or.inl c1), if_neg (show ¬ b2i true = 0 by decide), if_pos c1, c1]
    exact one 17 c1 (Or.inl rfl)
  · rw [if_neg c1]
    by_cases c2 : term b T (ps b T j) = 18
    · rw [decide_eq_true (Or.inr c2), if_neg (show ¬ b2i true = 0 by decide), if_pos c2, c2]
      exact one 18 c2 (Or.inr rfl)
    · rw [decide_eq_false (by omega), if_pos (show b2i false = 0 from rfl), if_neg c2]
      have hm := e_sum h hl
      have g := g_sum (b := b) (T := T) hle
      cases hr : (lpSum b T (ps b T j)).2 with
      | none =>
        obtain ⟨σ2, e2, e3, e4⟩ := hm.2 hr
        unfold prB
        rw [hr, e2, bd2_s, if_pos rfl]
        exact CLR.no ⟨σ2, rfl, e3, e4⟩
      | some c3 =>
        obtain ⟨σ2, j2, e2, e3, e4⟩ := hm.1 c3 hr
        obtain ⟨g1, g2, g3, g4⟩ := g.2 c3 hr
        have gT := g.1
        unfold prB
        rw [hr, e2, bd2_s, if_neg (by decide), show (8 : Int32) = nI 8 from rfl, k_take e4.1 e4.2.2.1 e4.2.1 (by omega), e3]
        show CLR n0 σ0 b T N c _ _ (if term b T (lpSum b T (ps b T j)).1 = 8 then _ else _)
        have tail : ∀ (x y : Int32), (x = -2 ∧ y ≠ 0 ∨ x = -3 ∧ y = 0) → term b T (ps b T j2) ≠ 1 → CLR n0 σ0 b T N c (fun σ2 => some (1, σ2)) (oX4_readAtom_172 rfC rfA 85 y (st σ2 1 5 (nI (j2 + 1)))) (prB (lpSum b T (nx b T (lpSum b T (ps b T j)).1)) (fun c2 r => (r, some (c3 ++ c2 ++ [x])))) := by
          intro x y hx ht
          obtain ⟨k1, k2⟩ := e4.next ht
          have hn := nx_gt (b := b) k2
          have hps : ps b T (j2 + 1) = nx b T (ps b T j2) := rfl
          have hm2 := e_sum k1 (by rw [hps, List.length_append]; omega)
          rw [hps, e3] at hm2
          have gg := g_sum (b := b) (T := T) (p := nx b T (lpSum b T (ps b T j)).1) (by rw [← e3]; exact hn.2)
          unfold oX4_readAtom_172
          cases hr2 : (lpSum b T (nx b T (lpSum b T (ps b T j)).1)).2 with
          | none =>
            obtain ⟨σ3, e5, e6, e7⟩ := hm2.2 hr2
            unfold prB
            rw [hr2, e5, bd2_s, if_pos rfl]
            exact CLR.no ⟨σ3, rfl, e6, e7⟩
          | some c4 =>
            obtain ⟨σ3, j3, e5, e6, e7⟩ := hm2.1 c4 hr2
            obtain ⟨g5, g6, g7, g8⟩ := gg.2 c4 hr2
            have gT2 := gg.1
            unfold prB
            rw [hr2, e5, bd2_s, if_neg (by decide)]
            rw [e3] at hn
            have em : ∀ z : Int32, ∃ σ4, X3_emit 85 z σ3 = some σ4 ∧ KS n0 σ0 σ4 b T N j3 (c ++ (c3 ++ c4 ++ [z])) := fun z => by
              obtain ⟨σ4, u1, u2⟩ := e_emit e7 (x := z) (by rw [List.length_append, List.length_append]; omega)
              exact ⟨σ4, u1, by simpa [List.append_assoc] using u2⟩
            rcases hx with ⟨hx, hy⟩ | ⟨hx, hy⟩
            · obtain ⟨σ4, u1, u2⟩ := em (-2)
              rw [if_neg hy, u1, bd_s]
              refine ⟨fun c2 e => ?_, fun e => nomatch e⟩
              cases e
              exact ⟨σ4, j3, rfl, e6, by rw [hx]; exact u2⟩
            · obtain ⟨σ4, u1, u2⟩ := em (-3)
              rw [if_pos hy, u1, bd_s]
              refine ⟨fun c2 e => ?_, fun e => nomatch e⟩
              cases e
              exact ⟨σ4, j3, rfl, e6, by rw [hx]; exact u2⟩
        by_cases c4 : term b T (lpSum b T (ps b T j)).1 = 8
        · rw [if_pos c4, if_pos c4, bd2_s, if_neg (by decide)]
          exact tail (-2) 1 (Or.inl ⟨rfl, by decide⟩) (by rw [e3]; omega)
        · rw [if_neg c4, if_neg c4, bd2_s, if_pos rfl, show (9 : Int32) = nI 9 from rfl, k_need e4.1 e4.2.2.1 e4.2.1 (by omega), e3]
          by_cases c5 : term b T (lpSum b T (ps b T j)).1 = 9
          · rw [if_pos c5, if_pos c5, bd2_s, if_neg (by decide)]
            exact tail (-3) 0 (Or.inr ⟨rfl, rfl⟩) (by rw [e3]; omega)
          · rw [if_neg c5, if_neg c5, bd2_s, if_pos rfl]
            exact CLR.no ⟨_, rfl, e4.bad⟩
end CLAW

/-! the reference reads letters -/
def LetR (σ : Mem) (b : Nat → Int32) (T : Nat) : Prop := T ≤ 400 ∧ σ 399 10 = nI T ∧ ((σ 399 9 = oI none ∧ ∀ k, k < T → σ 404 k = b k) ∨ (σ 399 9 = nI 488 ∧ ∀ k, k < T → σ 400 (488 + k) = b k))
def PA (σ : Mem) (a d : Nat) : Mem := st (st σ 399 13 (nI d)) 399 11 (nI a)
/-- a fault is told; at is no greater than x -/
def Flt (σ σ' : Mem) (f x : Nat) : Prop := σ' 399 12 = nI f ∧ (∃ a, a ≤ x ∧ σ' 399 11 = nI a) ∧ (∀ c, c ≠ 399 → c ≠ 400 → σ' c = σ c) ∧ (∀ i, i < 11 ∨ i = 15 → σ' 399 i = σ 399 i) ∧ (∀ i, 488 ≤ i ∨ i < 488 → σ' 400 i = σ 400 i) ∧ (σ' 399 17 = σ 399 17 ∨ ∃ o : Bool, σ' 399 17 = b2i o)
section MTEXT
variable {σ : Mem} {b : Nat → Int32} {T : Nat}
theorem pa_a {a d : Nat} : PA σ a d 399 11 = nI a := by unfold PA; rw [st_at]
theorem pa_d {a d : Nat} : PA σ a d 399 13 = nI d := by unfold PA; rw [st_at' (by decide), st_at]
theorem pa_o {a d i : Nat} (h1 : i ≠ 11) (h2 : i ≠ 13) : PA σ a d 399 i = σ 399 i := by unfold PA; rw [st_at' h1, st_at' h2]
theorem pa_n {a d c : Nat} (h : c ≠ 399) : PA σ a d c = σ c := by unfold PA; rw [st_n h, st_n h]
theorem st_st {k i : Nat} {x y : Int32} : st (st σ k i x) k i y = st σ k i y := by
  funext c
  by_cases h : c = k
  · subst h
    rw [st_s, st_s, st_s]
    funext j
    unfold upd
    split <;> rfl
  · rw [st_n h, st_n h, st_n h]
theorem st_comm {k i k2 j : Nat} {x y : Int32} (h : k ≠ k2 ∨ i ≠ j) : st (st σ k i x) k2 j y = st (st σ k2 j y) k i x := by
  funext c
  funext q
  rw [st_ap, st_ap, st_ap, st_ap]
  by_cases h1 : c = k ∧ q = i
  · by_cases h2 : c = k2 ∧ q = j
    · exfalso; obtain ⟨rfl, rfl⟩ := h1; obtain ⟨rfl, rfl⟩ := h2; rcases h with h | h <;> exact h rfl
    · rw [if_neg h2, if_pos h1, if_pos h1]
  · rw [if_neg h1, if_neg h1]
theorem st_self {k i : Nat} {x : Int32} (h : σ k i = x) : st σ k i x = σ := by
  funext c
  funext q
  rw [st_ap]
  split
  · rename_i e; obtain ⟨rfl, rfl⟩ := e; exact h.symm
  · rfl
theorem pa_st {a d a2 : Nat} : st (PA σ a d) 399 11 (nI a2) = PA σ a2 d := by unfold PA; rw [st_st]
theorem pa_sd {a d d2 : Nat} : st (PA σ a d) 399 13 (nI d2) = PA σ a d2 := by
  unfold PA
  rw [st_comm (Or.inr (by decide)), st_st]
theorem pa_pa {a d a2 d2 : Nat} : PA (PA σ a d) a2 d2 = PA σ a2 d2 := by
  show st (st (PA σ a d) 399 13 (nI d2)) 399 11 (nI a2) = _
  rw [pa_sd, pa_st]
theorem LetR.pa (h : LetR σ b T) {a d : Nat} : LetR (PA σ a d) b T := by
  unfold LetR at *
  rw [pa_o (by decide) (by decide), pa_o (by decide) (by decide), pa_n (by decide), pa_n (by decide)]
  exact h
theorem m_letter (h : LetR σ b T) {k : Nat} (hk : k < T) : X12_letter σ (nI k) = some (b k) := by
  obtain ⟨h1, h2, h3⟩ := h
  unfold X12_letter
  rcases h3 with ⟨h3, h4⟩ | ⟨h3, h4⟩
  · rw [h3, if_pos (by rfl), ag_nI (by show k < ln 404; rw [show ln 404 = 400 from by decide +kernel]; omega) (by omega), bd_s, h4 k hk]
  · rw [h3, if_neg (by decide), nI_add, m_at (by omega), bd_s, h4 k hk]
theorem m_skip_l (h : LetR σ b T) {d : Nat} : ∀ (m fuel a : Nat), a + m = T → m < fuel → X12_skip_0 fuel (PA σ a d) = some (PA σ (skp b T a) d) := by
  have hT := h.1
  intro m
  induction m with
  | zero =>
    intro fuel a ha hf
    obtain ⟨fuel, rfl⟩ : ∃ z, fuel = z + 1 := ⟨fuel - 1, by omega⟩
    rw [X12_skip_0, h.pa.2.1, pa_a, if_pos (nI_le (by omega) (by omega)), skp_T (by omega)]
  | succ m ih =>
    intro fuel a ha hf
    obtain ⟨fuel, rfl⟩ : ∃ z, fuel = z + 1 := ⟨fuel - 1, by omega⟩
    rw [X12_skip_0, h.pa.2.1, pa_a, if_neg (nI_ge (by omega) (by omega)), m_letter h.pa (by omega), bd_s, skp_s (by omega)]
    by_cases c : b a = 32
    · rw [if_pos c, if_pos c, nI_1, pu_s, bd_s, pa_st]
      exact ih fuel (a + 1) (by omega) (by omega)
    · rw [if_neg c, if_neg c]
theorem m_skip (h : LetR σ b T) {a d : Nat} (ha : a ≤ T) : X12_skip (PA σ a d) = some (PA σ (skp b T a) d) := by
  have hT := h.1
  exact m_skip_l h (T - a) FU a (by omega) (FUb (by omega))
theorem m_isSign (h : LetR σ b T) {a d p : Nat} (ha : a ≤ T) (hp : skp b T a = p) {c : Int32} : X12_isSign c (PA σ a d) = some (b2i (decide (p < T ∧ b p = c)), PA σ p d) := by
  have hT := h.1
  have hle := skp_le (b := b) ha
  subst hp
  unfold X12_isSign
  rw [m_skip h ha, bd_s, h.pa.2.1, pa_a]
  by_cases c1 : T ≤ skp b T a
  · rw [if_pos (nI_le c1 (by omega)), decide_eq_false (by omega)]; rfl
  · rw [if_neg (nI_ge (by omega) (by omega)), m_letter h.pa (by omega), bd_s]
    by_cases c2 : b (skp b T a) = c
    · rw [if_pos c2, decide_eq_true ⟨by omega, c2⟩]; rfl
    · rw [if_neg c2, decide_eq_false (fun z => c2 z.2)]; rfl
theorem m_here (h : LetR σ b T) {a d : Nat} (ha : a ≤ T) : X12_here (PA σ a d) = some (nI (skp b T a), PA σ (skp b T a) d) := by
  unfold X12_here
  rw [m_skip h ha, bd_s, pa_a]
theorem kdI_3 {x : Int32} : kdI x = 0 ∨ kdI x = 1 ∨ kdI x = 2 := by
  unfold kdI
  split
  · split
    · exact Or.inl rfl
    · split
      · exact Or.inl rfl
      · exact Or.inr (Or.inr rfl)
  · split
    · split
      · exact Or.inl rfl
      · split
        · exact Or.inl rfl
        · exact Or.inr (Or.inr rfl)
    · exact Or.inr (Or.inl rfl)
theorem isIn_kd1 {τ : Mem} {x : Int32} : X12_isIn τ x 97 122 = some (b2i (decide (kdI x = 1))) := by
  rw [m_isIn]
  congr 2
  rw [← Bool.decide_and]
  apply decide_eq_decide.mpr
  rw [kd1_iff, Int32.not_lt, Int32.not_lt]
theorem isIn_kd2 {τ : Mem} {x : Int32} : X12_isIn τ x 48 57 = some (b2i (decide (kdI x = 2))) := by
  rw [m_isIn]
  congr 2
  rw [← Bool.decide_and]
  apply decide_eq_decide.mpr
  rw [kd2_iff, Int32.not_lt, Int32.not_lt]
theorem slen_s {τ : Mem} {s : Nat} (h : s < 30) : slen τ s = some (nI (wlen s)) := by unfold slen; rw [if_pos (show s < txN from h)]; rfl
theorem gs_s {s : Nat} (h : s < 30) : gs s = some () := by unfold gs; rw [if_pos (show s < txN from h)]
theorem scha_s {τ : Mem} {s i : Nat} (h : s < 30) (hi : i < wlen s) : scha τ s (nI i) = some (wch s i) := by
  have := (wlen_ s h).1
  unfold scha
  rw [nI_clamp (by omega), if_pos ⟨show s < txN from h, by rintro (q | q); exact nI_pos (by omega) q; exact absurd q (by unfold wlen at hi; omega)⟩]
  rfl
theorem m_has_w (h : LetR σ b T) {p e d s : Nat} (hs : s < 30) (he : e ≤ T) : ∀ (m i fuel : Nat), i + m = wlen s → m < fuel → p + wlen s = e → (∀ j, j < i → b (p + j) = wch s j) → X12_has_55 fuel s (nI e) (nI i) (PA σ p d) = if wdAt b p e s = true then some (nI 1, PA σ e d) else some (nI 0, PA σ p d) := by
  have hT := h.1
  have hw := (wlen_ s hs).1
  intro m
  induction m with
  | zero =>
    intro i fuel hi hf hpe hj
    obtain ⟨fuel, rfl⟩ : ∃ z, fuel = z + 1 := ⟨fuel - 1, by omega⟩
    rw [X12_has_55, gs_s hs, bd_s, slen_s hs, bd_s, if_pos (nI_le (by omega) (by omega)), pu_s, bd_s, pa_st]
    rw [if_pos]
    · rfl
    · unfold wdAt
      rw [Bool.and_eq_true, decide_eq_true_eq, allR_iff]
      exact ⟨hpe, fun j h1 => by rw [decide_eq_true_eq]; exact hj j (by omega)⟩
  | succ m ih =>
    intro i fuel hi hf hpe hj
    obtain ⟨fuel, rfl⟩ : ∃ z, fuel = z + 1 := ⟨fuel - 1, by omega⟩
    rw [X12_has_55, gs_s hs, bd_s, slen_s hs, bd_s, if_neg (nI_ge (by omega) (by omega)), pa_a, nI_add, m_letter h.pa (by omega), bd_s, bd_s, scha_s hs (by omega), bd_s]
    by_cases c : b (p + i) = wch s i
    · rw [if_pos c, nI_1]
      refine ih (i + 1) fuel (by omega) (by omega) hpe (fun j h1 => ?_)
      by_cases q : j = i
      · rw [q]; exact c
      · exact hj j (by omega)
    · rw [if_neg c, if_neg]
      · rfl
      · intro q
        unfold wdAt at q
        rw [Bool.and_eq_true, allR_iff] at q
        have := q.2 i (by omega)
        rw [decide_eq_true_eq] at this
        exact c this
theorem m_has_l (h : LetR σ b T) {p d s : Nat} : ∀ (m k fuel : Nat), k + m = T → m < fuel → X12_has_9 fuel s (nI k) (PA σ p d) = X12_has_38 s (nI (rn b T 1 k)) (PA σ p d) := by
  have hT := h.1
  intro m
  induction m with
  | zero =>
    intro k fuel hk hf
    obtain ⟨fuel, rfl⟩ : ∃ z, fuel = z + 1 := ⟨fuel - 1, by omega⟩
    rw [X12_has_9, h.pa.2.1, if_pos (nI_le (by omega) (by omega)), rn_T (by omega)]
  | succ m ih =>
    intro k fuel hk hf
    obtain ⟨fuel, rfl⟩ : ∃ z, fuel = z + 1 := ⟨fuel - 1, by omega⟩
    rw [X12_has_9, h.pa.2.1, if_neg (nI_ge (by omega) (by omega)), m_letter h.pa (by omega), bd_s, isIn_kd1, bd_s, rn_s (by omega)]
    by_cases c : kdI (b k) = 1
    · rw [decide_eq_true c, if_neg (show ¬ b2i true = 0 by decide), if_pos c, nI_1]
      exact ih (k + 1) fuel (by omega) (by omega)
    · rw [decide_eq_false c, if_pos (show b2i false = 0 from rfl), if_neg c]
theorem m_has (h : LetR σ b T) {a d p s : Nat} (ha : a ≤ T) (hp : skp b T a = p) (h7 : 7 ≤ s) (hs : s < 30) : X12_has s (PA σ a d) = if term b T p = s + 3 then some (nI 1, PA σ (tEnd b T p) d) else some (nI 0, PA σ p d) := by
  have hT := h.1
  have hle := skp_le (b := b) ha
  rw [hp] at hle
  have hw := (wlen_ s hs)
  unfold X12_has
  rw [m_skip h ha, bd_s, hp, pa_a, m_has_l h (T - p) p FU (by omega) (FUb (by omega))]
  have hr := rn_le (b := b) (T := T) (k := 1) (i := p) (by omega)
  unfold X12_has_38
  rw [gs_s hs, bd_s, slen_s hs, bd_s, pa_a, nI_subN hr.1]
  by_cases c1 : p < T ∧ kdI (b p) = 1
  · have e1 : tEnd b T p = rn b T 1 p := by rw [tEnd_rn c1.1 (by omega), c1.2]
    have e2 : term b T p = s + 3 ↔ wdAt b p (tEnd b T p) s = true := by
      rw [term_wd (by omega) hs]
      exact ⟨fun q => q.2.2, fun q => ⟨c1.1, by omega, q⟩⟩
    by_cases c2 : rn b T 1 p - p = wlen s
    · rw [if_pos (by rw [c2]), ← e1, show (0 : Int32) = nI 0 from rfl, m_has_w h hs (by omega) (wlen s) 0 FU (by omega) (FUb (by omega)) (by omega) (fun j q => absurd q (by omega))]
      by_cases c3 : term b T p = s + 3
      · rw [if_pos c3, if_pos (e2.mp c3)]
      · rw [if_neg c3, if_neg (fun q => c3 (e2.mpr q))]
    · rw [if_neg (fun q => c2 (nI_inj (by omega) (by omega) q)), if_neg]
      · rfl
      · intro q
        have q := e2.mp q
        unfold wdAt at q
        rw [Bool.and_eq_true, decide_eq_true_eq] at q
        omega
  · have e1 : rn b T 1 p = p := by
      by_cases c2 : p < T
      · rw [rn_s c2, if_neg (fun q => c1 ⟨c2, q⟩)]
      · rw [rn_T (by omega)]
    rw [e1, Nat.sub_self, if_neg (fun q => by have := nI_inj (by omega) (by omega) q; omega), if_neg]
    · rfl
    · intro q
      have q := (term_wd (by omega) hs).mp q
      have hk0 : kdI (b p) = 0 := by
        have : kdI (b p) ≠ 1 := fun z => c1 ⟨q.1, z⟩
        have h2 := q.2.1
        have : kdI (b p) = 0 ∨ kdI (b p) = 1 ∨ kdI (b p) = 2 := kdI_3
        omega
      have e3 : tEnd b T p = p + 1 := by unfold tEnd; rw [if_neg (by omega), if_pos hk0]
      have q3 := q.2.2
      unfold wdAt at q3
      rw [Bool.and_eq_true, decide_eq_true_eq] at q3
      omega
theorem valF_snoc : ∀ {m i : Nat} {a : Int32}, valF b (m + 1) i a = ((valF b m i a * 10) + b (i + m)) - 48 := by
  intro m
  induction m with
  | zero => intro i a; rfl
  | succ m ih =>
    intro i a
    rw [valF, ih, valF, show i + 1 + m = i + (m + 1) by omega]
theorem m_wrong {f : Nat} (h : σ 399 12 = oI none) : X12_wrong (nI f) σ = some (st σ 399 12 (nI f)) := by
  unfold X12_wrong
  rw [h, if_pos (by rfl), pu_s, bd_s]
theorem m_wrong2 {x : Int32} (h : σ 399 12 ≠ oI none) : X12_wrong x σ = some σ := by
  unfold X12_wrong
  rw [show (-1 : Int32) = oI none from rfl, if_neg h]
theorem m_fig_l (h : LetR σ b T) {p d : Nat} {hi : Int32} : ∀ (m j fuel : Nat), j + m = min 4 (rn b T 2 p - p) → m < fuel → p ≤ T → X12_figures_18 fuel 0 hi (nI p) (valF b j p 0) (PA σ (p + j) d) = X12_figures_89 0 hi (nI p) (valF b (min 4 (rn b T 2 p - p)) p 0) (PA σ (p + min 4 (rn b T 2 p - p)) d) := by
  have hT := h.1
  intro m
  induction m with
  | zero =>
    intro j fuel hj hf hp
    obtain ⟨fuel, rfl⟩ : ∃ z, fuel = z + 1 := ⟨fuel - 1, by omega⟩
    have hr := rn_le (b := b) (T := T) (k := 2) (i := p) hp
    rw [X12_figures_18, h.pa.2.1, pa_a]
    rw [show min 4 (rn b T 2 p - p) = j by omega]
    by_cases c1 : T ≤ p + j
    · rw [if_pos (nI_le c1 (by omega))]
    · rw [if_neg (nI_ge (by omega) (by omega)), m_letter h.pa (by omega), bd_s, isIn_kd2, bd_s]
      by_cases c2 : kdI (b (p + j)) = 2
      · rw [decide_eq_true c2, if_neg (show ¬ b2i true = 0 by decide), nI_subN (by omega), show p + j - p = j by omega, if_pos (show (3 : Int32) < nI j from ?_)]
        have : 4 ≤ rn b T 2 p - p := by
          apply Classical.byContradiction
          intro q
          have hjr : rn b T 2 p = p + j := by omega
          have key : ∀ m i, i + m = T → kdI (b (rn b T 2 i)) = 2 → rn b T 2 i = T := by
            intro m
            induction m with
            | zero => intro i hi _; rw [rn_T (by omega)]; omega
            | succ m ih =>
              intro i hi hk
              rw [rn_s (by omega)] at hk ⊢
              split
              · rename_i hc
                rw [if_pos hc] at hk
                exact ih (i + 1) (by omega) hk
              · rename_i hc
                rw [if_neg hc] at hk
                exact absurd hk hc
          have := key (T - p) p (by omega) (by rw [hjr]; exact c2)
          omega
        exact nI_lt (a := 3) (by omega) (by omega)
      · rw [decide_eq_false c2, if_pos (show b2i false = 0 from rfl)]
  | succ m ih =>
    intro j fuel hj hf hp
    obtain ⟨fuel, rfl⟩ : ∃ z, fuel = z + 1 := ⟨fuel - 1, by omega⟩
    have hr := rn_le (b := b) (T := T) (k := 2) (i := p) hp
    have hk : kdI (b (p + j)) = 2 := rn_kd (T := T) (i := p) (by omega) (by omega)
    rw [X12_figures_18, h.pa.2.1, pa_a, if_neg (nI_ge (by omega) (by omega)), m_letter h.pa (by omega), bd_s, isIn_kd2, bd_s, decide_eq_true hk, if_neg (show ¬ b2i true = 0 by decide), nI_subN (by omega), show p + j - p = j by omega, if_neg (show ¬ (3 : Int32) < nI j from nI_nlt (a := 3) (by omega) (by omega)), bd_s, nI_1, pu_s, bd_s, pa_st, show (10 : Int32) * valF b j p 0 + b (p + j) - 48 = valF b (j + 1) p 0 from by rw [valF_snoc, Int32.mul_comm]]
    exact ih (j + 1) fuel (by omega) (by omega) hp
theorem m_figures (h : LetR σ b T) (h0 : σ 399 12 = oI none) {a d p : Nat} (ha : a ≤ T) (hp : skp b T a = p) {hi : Int32} : if term b T p = 3 ∧ nI (val b T p) ≤ hi then X12_figures 0 hi (PA σ a d) = some (nI (val b T p), PA σ (tEnd b T p) d) else ∃ r a', a' ≤ T ∧ X12_figures 0 hi (PA σ a d) = some (r, st (PA σ a' d) 399 12 (nI p)) := by
  have hT := h.1
  have hle := skp_le (b := b) ha
  rw [hp] at hle
  have hr := rn_le (b := b) (T := T) (k := 2) (i := p) hle.2
  have e0 : X12_figures 0 hi (PA σ a d) = X12_figures_89 0 hi (nI p) (valF b (min 4 (rn b T 2 p - p)) p 0) (PA σ (p + min 4 (rn b T 2 p - p)) d) := by
    unfold X12_figures
    rw [pa_o (by decide) (by decide), h0, if_pos (by rfl), m_here h ha, hp, bd2_s]
    exact m_fig_l h _ 0 FU (Nat.zero_add _) (FUb (by omega)) hle.2
  have hw : ∀ q, X12_wrong (nI p) (PA σ q d) = some (st (PA σ q d) 399 12 (nI p)) := fun q => m_wrong (by rw [pa_o (by decide) (by decide)]; exact h0)
  rw [e0]
  unfold X12_figures_89 X12_figures_119
  rw [pa_a]
  by_cases c1 : p < T ∧ kdI (b p) = 2
  · have e1 : tEnd b T p = rn b T 2 p := by rw [tEnd_rn c1.1 (by omega), c1.2]
    have hgt := tEnd_le (b := b) c1.1
    rw [if_neg (show ¬ nI (p + min 4 (rn b T 2 p - p)) = nI p from fun q => by have := nI_inj (by omega) (by omega) q; omega), nI_subN (by omega), show p + min 4 (rn b T 2 p - p) - p = min 4 (rn b T 2 p - p) by omega]
    by_cases c2 : rn b T 2 p - p ≤ 3
    · have ht : term b T p = 3 := term_num.mpr ⟨c1.1, c1.2, by omega⟩
      obtain ⟨v1, v2⟩ := val_I ht
      have v3 : valF b (rn b T 2 p - p) p 0 = nI (val b T p) := by rw [← v1]; unfold valI; rw [e1]
      rw [show min 4 (rn b T 2 p - p) = rn b T 2 p - p by omega, v3, if_neg (show ¬ (3 : Int32) < nI (rn b T 2 p - p) from nI_nlt (a := 3) (by omega) (by omega)), if_neg (show ¬ nI (val b T p) < 0 from nI_pos (by omega)), show p + (rn b T 2 p - p) = rn b T 2 p by omega]
      by_cases c3 : nI (val b T p) ≤ hi
      · rw [if_pos ⟨ht, c3⟩, if_pos c3, e1]
      · rw [if_neg (fun q => c3 q.2), if_neg c3, hw, bd_s]
        exact ⟨_, rn b T 2 p, by omega, rfl⟩
    · have ht : ¬ term b T p = 3 := fun q => by have := (term_num.mp q).2.2; omega
      rw [if_neg (fun q => ht q.1), if_pos (show (3 : Int32) < nI (min 4 (rn b T 2 p - p)) from nI_lt (a := 3) (by omega) (by omega)), hw, bd_s]
      exact ⟨_, p + min 4 (rn b T 2 p - p), by omega, rfl⟩
  · have e1 : rn b T 2 p = p := by
      by_cases c2 : p < T
      · rw [rn_s c2, if_neg (fun q => c1 ⟨c2, q⟩)]
      · rw [rn_T (by omega)]
    have ht : ¬ term b T p = 3 := fun q => by have := term_num.mp q; exact c1 ⟨this.1, this.2.1⟩
    rw [if_neg (fun q => ht q.1), e1, Nat.sub_self, show p + min 4 0 = p by omega, if_pos rfl, hw, bd_s]
    exact ⟨_, p, hle.2, rfl⟩
end MTEXT

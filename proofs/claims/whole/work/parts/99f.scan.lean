/-! the component cuts the text into terms -/
def ps (b : Nat → Int32) (T : Nat) : Nat → Nat
  | 0 => skp b T 0
  | m + 1 => nx b T (ps b T m)
def LetC (σ : Mem) (b : Nat → Int32) (T : Nat) : Prop := T ≤ 400 ∧ ∀ k, k < T → σ 3 k = b k
def TokAt (σ : Mem) (b : Nat → Int32) (T m : Nat) : Prop := σ 4 m = nI (term b T (ps b T m)) ∧ σ 6 m = nI (ps b T m) ∧ (term b T (ps b T m) = 3 → σ 8 m = nI (val b T (ps b T m)))
def Tok (σ : Mem) (b : Nat → Int32) (T N : Nat) : Prop := T ≤ 400 ∧ N ≤ 400 ∧ T ≤ ps b T N ∧ (∀ m, m < N → ps b T m < T) ∧ ∀ m, m ≤ N → TokAt σ b T m
section SCAN
variable {σ σ1 σ2 : Mem} {b : Nat → Int32} {T N j : Nat}
theorem ln3 : ln 3 = 400 := by decide +kernel
theorem ln4_ : ln 4 = 401 := by decide +kernel
theorem ln6 : ln 6 = 401 := by decide +kernel
theorem ln8 : ln 8 = 401 := by decide +kernel
theorem gtT_s {t : Nat} (h1 : 1 ≤ t) (h2 : t ≤ 32) : gt (nI t) = some () := by
  unfold gt
  exact if_pos ⟨show (1 : Int32) ≤ nI t from nI_le (a := 1) h1 (by omega), show nI t ≤ 32 from nI_le (b := 32) h2 (by omega)⟩
theorem gt2_s {t u : Nat} (h1 : t ≤ 32) (h2 : u ≤ 32) : gt2 (nI t) (nI u) = some () := by
  unfold gt2
  exact if_pos ⟨⟨nI_pos' (by omega), show nI t ≤ 32 from nI_le (b := 32) h1 (by omega)⟩, nI_pos' (by omega), show nI u ≤ 32 from nI_le (b := 32) h2 (by omega)⟩
theorem c_byte (h : LetC σ b T) {k : Nat} (hk : k < T) : X6_get σ 2 (nI k) = some (b k) := by
  have := h.1
  rw [e_get (B := 2) (show k < ln 3 by rw [ln3]; omega) (by rw [ln3]; decide)]
  exact congrArg some (h.2 k hk)
theorem e_blanks (h : LetC σ b T) {i : Nat} (hi : i ≤ T) : X10_behindBlanks σ (nI i) (nI T) = some (nI (skp b T i)) := by
  have hT := h.1
  have key : ∀ (m i fuel : Nat), i + m = T → m < fuel → X10_behindBlanks_2 σ fuel (nI T) (nI i) = some (nI (skp b T i)) := by
    intro m
    induction m with
    | zero =>
      intro i fuel hi hf
      obtain ⟨fuel, rfl⟩ : ∃ z, fuel = z + 1 := ⟨fuel - 1, by omega⟩
      rw [X10_behindBlanks_2, if_pos (nI_le (by omega) (by omega)), skp_T (by omega)]
    | succ m ih =>
      intro i fuel hi hf
      obtain ⟨fuel, rfl⟩ : ∃ z, fuel = z + 1 := ⟨fuel - 1, by omega⟩
      rw [X10_behindBlanks_2, if_neg (nI_ge (by omega) (by omega)), c_byte h (by omega), bd_s, skp_s (by omega), nI_1, ih (i + 1) fuel (by omega) (by omega)]
      by_cases c : b i = 32
      · rw [if_pos c, if_pos c]
      · rw [if_neg c, if_neg c]
  exact key (T - i) i FU (by omega) (FUb (by omega))
theorem e_kind {x : Int32} : X10_kindOf σ x = some (nI (kdI x)) := by
  unfold X10_kindOf X10_kindOf_14 kdI
  by_cases h1 : x < 97
  · rw [if_pos h1, if_pos h1]
    by_cases h2 : x < 48
    · rw [if_pos h2, if_pos h2]; rfl
    · rw [if_neg h2, if_neg h2]
      by_cases h3 : 57 < x
      · rw [if_pos h3, if_pos h3]; rfl
      · rw [if_neg h3, if_neg h3]; rfl
  · rw [if_neg h1, if_neg h1]
    by_cases h4 : 122 < x
    · rw [if_pos h4, if_pos h4]
      by_cases h2 : x < 48
      · rw [if_pos h2, if_pos h2]; rfl
      · rw [if_neg h2, if_neg h2]
        by_cases h3 : 57 < x
        · rw [if_pos h3, if_pos h3]; rfl
        · rw [if_neg h3, if_neg h3]; rfl
    · rw [if_neg h4, if_neg h4]; rfl
theorem get_some {k : Nat} {x : Int32} (h2 : ln (k + 1) < 2 ^ 31) : ∃ y, X6_get σ k x = some y := by
  unfold X6_get
  by_cases c1 : x < 0
  · exact ⟨0, if_pos c1⟩
  · rw [if_neg c1]
    by_cases c2 : nI (ln (k + 1)) ≤ x
    · exact ⟨0, if_pos c2⟩
    · rw [if_neg c2]
      obtain ⟨n, n1, rfl⟩ := nI_of c1
      have : n < ln (k + 1) := Nat.lt_of_not_le fun q => c2 (nI_le q n1)
      rw [ag_nI this n1, bd_s]
      exact ⟨_, rfl⟩
theorem e_bterm (h : LetC σ b T) {p : Nat} (hp : p ≤ T) : X10_behindTerm σ (nI p) (nI T) = some (nI (tEnd b T p)) := by
  have hT := h.1
  unfold X10_behindTerm tEnd
  by_cases c : T ≤ p
  · obtain ⟨y, hy⟩ := get_some (σ := σ) (k := 2) (x := nI p) (by decide +kernel)
    obtain ⟨z, hz⟩ : ∃ z, FU = z + 1 := ⟨FU - 1, by rfl⟩
    rw [hy, bd_s, e_kind, bd_s, bd_s, nI_1, if_pos (nI_lt (by omega) (by omega)), if_pos c, hz, X10_behindTerm_21, if_pos (nI_le (Nat.le_refl _) (by omega))]
  · rw [c_byte h (by omega), bd_s, e_kind, bd_s, bd_s, nI_1, if_neg (nI_nlt (by omega) (by omega)), if_neg c]
    have key : ∀ (m i fuel : Nat), i + m = T → m < fuel → kdI (b p) ≠ 0 → X10_behindTerm_21 σ fuel (nI T) (nI (kdI (b p))) (nI i) = some (nI (rn b T (kdI (b p)) i)) := by
      intro m
      induction m with
      | zero =>
        intro i fuel hi hf h0
        obtain ⟨fuel, rfl⟩ : ∃ z, fuel = z + 1 := ⟨fuel - 1, by omega⟩
        rw [X10_behindTerm_21, if_pos (nI_le (by omega) (by omega)), rn_T (by omega)]
      | succ m ih =>
        intro i fuel hi hf h0
        obtain ⟨fuel, rfl⟩ : ∃ z, fuel = z + 1 := ⟨fuel - 1, by omega⟩
        have k3 : ∀ x, kdI x ≤ 2 := fun x => by have := kdI_3 (x := x); omega
        have k1 := k3 (b i)
        have k2 := k3 (b p)
        rw [X10_behindTerm_21, if_neg (nI_ge (by omega) (by omega)), if_neg (show ¬ nI (kdI (b p)) = 0 from fun z => h0 (nI_inj (b := 0) (by omega) (by omega) z)), c_byte h (by omega), bd_s, e_kind, bd_s, rn_s (by omega), nI_1, ih (i + 1) fuel (by omega) (by omega) h0]
        by_cases c2 : kdI (b i) = kdI (b p)
        · rw [if_pos (by rw [c2]), if_pos c2]
        · rw [if_neg (fun z => c2 (nI_inj (by omega) (by omega) z)), if_neg c2]
    by_cases c0 : kdI (b p) = 0
    · rw [if_pos c0]
      obtain ⟨z, hz⟩ : ∃ z, FU = z + 1 := ⟨FU - 1, by rfl⟩
      rw [hz, X10_behindTerm_21]
      by_cases c1 : T ≤ p + 1
      · rw [if_pos (nI_le c1 (by omega))]
      · rw [if_neg (nI_ge (by omega) (by omega)), if_pos (show nI (kdI (b p)) = 0 by rw [c0]; rfl)]
    · rw [if_neg c0]
      exact key (T - (p + 1)) (p + 1) FU (by omega) (FUb (by omega)) c0
theorem e_spells (h : LetC σ b T) {p e s : Nat} (hs : s < 30) (hpe : p ≤ e) (he : e ≤ T) : X10_spells σ s (nI p) (nI e) = some (b2i (wdAt b p e s)) := by
  have hT := h.1
  have hw := (wlen_ s hs).1
  unfold X10_spells
  rw [gs_s hs, bd_s, slen_s hs, bd_s, nI_subN hpe]
  by_cases c1 : wlen s = e - p
  · rw [if_pos (by rw [c1])]
    have key : ∀ (m i fuel : Nat), i + m = wlen s → m < fuel → (∀ k, k < i → b (p + k) = wch s k) → X10_spells_15 σ fuel s (nI p) (nI i) = some (b2i (wdAt b p e s)) := by
      intro m
      induction m with
      | zero =>
        intro i fuel hi hf hk
        obtain ⟨fuel, rfl⟩ : ∃ z, fuel = z + 1 := ⟨fuel - 1, by omega⟩
        rw [X10_spells_15, gs_s hs, bd_s, slen_s hs, bd_s, if_pos (nI_le (by omega) (by omega))]
        have : wdAt b p e s = true := by
          unfold wdAt
          rw [Bool.and_eq_true, decide_eq_true_eq, allR_iff]
          exact ⟨by omega, fun k h1 => by rw [decide_eq_true_eq]; exact hk k (by omega)⟩
        rw [this]; rfl
      | succ m ih =>
        intro i fuel hi hf hk
        obtain ⟨fuel, rfl⟩ : ∃ z, fuel = z + 1 := ⟨fuel - 1, by omega⟩
        rw [X10_spells_15, gs_s hs, bd_s, slen_s hs, bd_s, if_neg (nI_ge (by omega) (by omega)), bd_s, scha_s hs (by omega), bd_s, nI_add, c_byte h (by omega), bd_s]
        by_cases c : wch s i = b (p + i)
        · rw [if_pos c, nI_1]
          refine ih (i + 1) fuel (by omega) (by omega) (fun k h1 => ?_)
          by_cases q : k = i
          · rw [q]; exact c.symm
          · exact hk k (by omega)
        · rw [if_neg c]
          have : wdAt b p e s = false := by
            cases hb : wdAt b p e s with
            | false => rfl
            | true =>
              unfold wdAt at hb
              rw [Bool.and_eq_true, allR_iff] at hb
              have := hb.2 i (by omega)
              rw [decide_eq_true_eq] at this
              exact absurd this.symm c
          rw [this]; rfl
    exact key (wlen s) 0 FU (Nat.zero_add _) (FUb (by omega)) (fun k h1 => by omega)
  · rw [if_neg (fun z => c1 (nI_inj (by omega) (by omega) z))]
    have : wdAt b p e s = false := by
      unfold wdAt
      rw [decide_eq_false (by omega)]; rfl
    rw [this]; rfl
theorem tAl_s {i : Nat} (h : i < 32) : tAl (nI i) = some (nI (i + 1)) := by
  unfold tAl
  rw [if_pos ⟨nI_pos' (by omega), show nI i < 32 from nI_lt (b := 32) h (by omega)⟩, nI_1]
theorem tSp_s {i : Nat} (h : i < 32) : tSp (nI (i + 1)) = some (spL.getD i 0) := by
  unfold tSp
  rw [if_pos ⟨show (1 : Int32) ≤ nI (i + 1) from nI_le (a := 1) (by omega) (by omega), show nI (i + 1) ≤ 32 from nI_le (b := 32) (by omega) (by omega)⟩, nI_clamp (by omega)]
  rfl
theorem spL_ : ∀ i, i < 32 → (i < 3 → spL.getD i 0 = 0) ∧ (3 ≤ i → spL.getD i 0 = i - 2) := by decide +kernel
theorem e_termOf (h : LetC σ b T) {p : Nat} (hp : p ≤ T) : X10_termOf σ (nI p) (nI (tEnd b T p)) = some (nI (term b T p)) := by
  have hT := h.1
  unfold X10_termOf
  by_cases c : T ≤ p
  · have e1 : tEnd b T p = T := by unfold tEnd; rw [if_pos c]
    rw [e1, if_neg (nI_nlt c (by omega)), term_T c]; rfl
  · have hl : p < T := by omega
    have he := tEnd_le (b := b) hl
    have k3 := kdI_3 (x := b p)
    rw [if_pos (nI_lt he.1 (by omega)), c_byte h hl, bd_s, e_kind, bd_s]
    unfold term
    rw [if_neg c]
    by_cases c2 : kdI (b p) = 2
    · rw [if_pos (show nI (kdI (b p)) = 2 by rw [c2]; rfl), if_pos c2, nI_subN (by omega)]
      by_cases c3 : tEnd b T p - p ≤ 3
      · rw [if_neg (show ¬ (3 : Int32) < nI (tEnd b T p - p) from nI_nlt (a := 3) c3 (by omega)), if_pos c3]; rfl
      · rw [if_pos (show (3 : Int32) < nI (tEnd b T p - p) from nI_lt (a := 3) (by omega) (by omega)), if_neg c3]; rfl
    · rw [if_neg (show ¬ nI (kdI (b p)) = 2 from fun z => c2 (nI_inj (b := 2) (by omega) (by omega) z)), if_neg c2]
      have key : ∀ (m s fuel : Nat), s + m = 30 → 1 ≤ s → m < fuel → X10_termOf_52 σ fuel (nI p) (nI (tEnd b T p)) (nI 32) (nI (s + 2)) = some (nI (fndW b p (tEnd b T p) s m)) := by
        intro m
        induction m with
        | zero =>
          intro s fuel hs h1 hf
          obtain ⟨fuel, rfl⟩ : ∃ z, fuel = z + 1 := ⟨fuel - 1, by omega⟩
          rw [X10_termOf_52, if_pos (nI_le (by omega) (by omega))]; rfl
        | succ m ih =>
          intro s fuel hs h1 hf
          obtain ⟨fuel, rfl⟩ : ∃ z, fuel = z + 1 := ⟨fuel - 1, by omega⟩
          rw [X10_termOf_52, if_neg (nI_ge (by omega) (by omega)), tAl_s (by omega), bd_s, tSp_s (by omega), bd_s, (spL_ (s + 2) (by omega)).2 (by omega), show s + 2 - 2 = s by omega, e_spells h (by omega) (by omega) he.2, bd_s, fndW, nI_1, show s + 2 + 1 = s + 1 + 2 by omega, ih (s + 1) fuel (by omega) (by omega) (by omega)]
          cases hw : wdAt b p (tEnd b T p) s with
          | true => rw [if_neg (show ¬ b2i true = 0 by decide), if_pos rfl]
          | false => rw [if_pos (show b2i false = 0 from rfl), if_neg (by decide)]
      have first : ∀ (i fuel : Nat), i < 3 → X10_termOf_52 σ (fuel + 1) (nI p) (nI (tEnd b T p)) (nI 32) (nI i) = X10_termOf_52 σ fuel (nI p) (nI (tEnd b T p)) (nI 32) (nI (i + 1)) := by
        intro i fuel hi
        have hw : wdAt b p (tEnd b T p) 0 = false := by
          unfold wdAt
          rw [decide_eq_false (show ¬ p + wlen 0 = tEnd b T p by rw [show wlen 0 = 0 from by decide +kernel]; omega)]; rfl
        rw [X10_termOf_52, if_neg (nI_ge (by omega) (by omega)), tAl_s (by omega), bd_s, tSp_s (by omega), bd_s, (spL_ i (by omega)).1 hi, e_spells h (by omega) (by omega) he.2, bd_s, hw, if_pos (show b2i false = 0 from rfl), nI_1]
      obtain ⟨z, hz⟩ : ∃ z, FU = z + 3 := ⟨FU - 3, by rfl⟩
      have hz2 : 30 < z := by have : FU = 100000 := rfl; omega
      rw [show (0 : Int32) = nI 0 from rfl, hz, first 0 (z + 2) (by omega), first 1 (z + 1) (by omega), first 2 z (by omega)]
      exact key 29 1 z rfl (by omega) (by omega)
theorem e_value (h : LetC σ b T) {p : Nat} (hp : p < T) : X10_valueOf σ (nI p) (nI (tEnd b T p)) = some (valI b T p) := by
  have hT := h.1
  have he := tEnd_le (b := b) hp
  unfold X10_valueOf valI
  have key : ∀ (m i fuel : Nat) (a : Int32), i + m = tEnd b T p → m < fuel → X10_valueOf_5 σ fuel (nI (tEnd b T p)) a (nI i) = some (valF b m i a) := by
    intro m
    induction m with
    | zero =>
      intro i fuel a hi hf
      obtain ⟨fuel, rfl⟩ : ∃ z, fuel = z + 1 := ⟨fuel - 1, by omega⟩
      rw [X10_valueOf_5, if_pos (nI_le (by omega) (by omega))]; rfl
    | succ m ih =>
      intro i fuel a hi hf
      obtain ⟨fuel, rfl⟩ : ∃ z, fuel = z + 1 := ⟨fuel - 1, by omega⟩
      rw [X10_valueOf_5, if_neg (nI_ge (by omega) (by omega)), c_byte h (by omega), bd_s, nI_1, ih (i + 1) fuel _ (by omega) (by omega)]; rfl
  exact key _ p FU 0 (by omega) (FUb (by omega))
theorem ps_le : ∀ m, ps b T m ≤ T ∧ skp b T (ps b T m) = ps b T m := by
  intro m
  induction m with
  | zero => exact ⟨(skp_le (Nat.zero_le _)).2, skp_id (Nat.zero_le _)⟩
  | succ m ih =>
    by_cases c : ps b T m < T
    · exact ⟨(nx_gt c).2, nx_id c⟩
    · have e1 : ps b T m = T := by omega
      have e2 : nx b T T = T := by
        unfold nx tEnd
        rw [if_pos (Nat.le_refl _), skp_T (Nat.le_refl _)]
      show nx b T (ps b T m) ≤ T ∧ skp b T (nx b T (ps b T m)) = nx b T (ps b T m)
      rw [e1, e2]
      exact ⟨Nat.le_refl _, skp_T (Nat.le_refl _)⟩
theorem ps_ge {m : Nat} (h : ∀ k, k < m → ps b T k < T) : m ≤ ps b T m := by
  induction m with
  | zero => exact Nat.zero_le _
  | succ m ih =>
    have := ih (fun k hk => h k (by omega))
    have := nx_gt (b := b) (h m (by omega))
    show m + 1 ≤ nx b T (ps b T m)
    omega
theorem e_scan19 (h : LetC σ b T) : ∃ σ1 N, X10_scan_19 FU (nI T) 0 0 σ = some σ1 ∧ Tok σ1 b T N ∧ ∀ c, c ≠ 4 → c ≠ 6 → c ≠ 8 → σ1 c = σ c := by
  have hT := h.1
  rw [show (0 : Int32) = nI 0 from rfl]
  refine loop_P (L := fun f (a : Nat × Mem) i => X10_scan_19 f (nI T) (nI a.1) i a.2) (P := fun i a => a.1 ≤ T ∧ skp b T a.1 = ps b T i ∧ (∀ m, m < i → ps b T m < T) ∧ (∀ m, m < i → TokAt a.2 b T m) ∧ ∀ c, c ≠ 4 → c ≠ 6 → c ≠ 8 → a.2 c = σ c) (Q := fun r => ∃ σ1 N, r = some σ1 ∧ Tok σ1 b T N ∧ ∀ c, c ≠ 4 → c ≠ 6 → c ≠ 8 → σ1 c = σ c) (n := 401) (a := (0, σ)) (fun f a hP => ?_) (fun f a i hi hP => ?_) (Nat.zero_le _) (FUb (by omega)) ⟨Nat.zero_le _, rfl, fun m h => by omega, fun m h => by omega, fun _ _ _ _ => rfl⟩
  · obtain ⟨p1, p2, p3, p4, p5⟩ := hP
    have q1 := ps_ge (b := b) (T := T) (m := 400) (fun k hk => p3 k (by omega))
    have q2 := p3 400 (by omega)
    omega
  · obtain ⟨q, τ⟩ := a
    obtain ⟨p1, p2, p3, p4, p5⟩ := hP
    dsimp only at p1 p2 p4 p5 ⊢
    have hL : LetC τ b T := ⟨hT, fun k hk => by rw [p5 3 (by decide) (by decide) (by decide)]; exact h.2 k hk⟩
    have hp := ps_le (b := b) (T := T) i
    have tr := term_rng (b := b) (T := T) (p := ps b T i)
    have hL2 : LetC (st (st τ 4 i (nI (term b T (ps b T i)))) 6 i (nI (ps b T i))) b T := ⟨hT, fun k hk => by rw [st_n (by decide), st_n (by decide)]; exact hL.2 k hk⟩
    have go : ∃ y, (term b T (ps b T i) = 3 → y = nI (val b T (ps b T i))) ∧ X10_scan_19 (f + 1) (nI T) (nI q) (nI i) τ = X10_scan_93 (X10_scan_19 f) (nI T) (nI (ps b T i)) (nI i) (nI (tEnd b T (ps b T i))) (nI i) y (st (st τ 4 i (nI (term b T (ps b T i)))) 6 i (nI (ps b T i))) := by
      rw [X10_scan_19, if_neg (show ¬ nI (ln 4) ≤ nI i from by rw [ln4_]; exact nI_ge (by omega) (by omega)), e_blanks hL p1, bd_s, p2, e_bterm hL hp.1, bd_s, e_termOf hL hp.1, bd_s, gtT_s tr.1 tr.2, bd_s, au_nI (by rw [ln4_]; omega) (by omega), bd_s, e_set (B := 5) (show i < ln 6 by rw [ln6]; omega) (by rw [ln6]; decide), bd_s, ag_nI (by rw [ln4_]; omega) (by omega), bd_s, st_n (by decide), st_at, show (3 : Int32) = nI 3 from rfl, gt2_s tr.2 (by omega), bd_s]
      by_cases c3 : term b T (ps b T i) = 3
      · have hl := term_lt (b := b) (T := T) (p := ps b T i) (by omega)
        rw [if_pos (by rw [c3]), e_value hL2 hl, bd_s, (val_I c3).1]
        exact ⟨_, fun _ => rfl, rfl⟩
      · rw [if_neg (fun z => c3 (nI_inj (by omega) (by omega) z))]
        exact ⟨_, fun z => absurd z c3, rfl⟩
    obtain ⟨y, y1, y2⟩ := go
    rw [y2]
    unfold X10_scan_93
    rw [e_set (B := 7) (show i < ln 8 by rw [ln8]; omega) (by rw [ln8]; decide), bd_s]
    generalize hτ2 : st (st (st τ 4 i (nI (term b T (ps b T i)))) 6 i (nI (ps b T i))) (7 + 1) i y = τ2
    have tk : ∀ m, m < i + 1 → TokAt τ2 b T m := by
      intro m hm
      by_cases e : m = i
      · subst e
        exact ⟨by rw [← hτ2, st_n (by decide), st_n (by decide), st_at], by rw [← hτ2, st_n (by decide), st_at], fun z => by rw [← hτ2, st_at, y1 z]⟩
      · obtain ⟨a1, a2, a3⟩ := p4 m (by omega)
        exact ⟨by rw [← hτ2, st_n (by decide), st_n (by decide), st_at' e]; exact a1, by rw [← hτ2, st_n (by decide), st_at' e, st_n (by decide)]; exact a2, fun z => by rw [← hτ2, st_at' e, st_n (by decide), st_n (by decide)]; exact a3 z⟩
    have fr : ∀ c, c ≠ 4 → c ≠ 6 → c ≠ 8 → τ2 c = σ c := fun c h1 h2 h3 => by rw [← hτ2, st_n h3, st_n h2, st_n h1, p5 c h1 h2 h3]
    by_cases c : ps b T i < T
    · right
      have he := tEnd_le (b := b) c
      refine ⟨(tEnd b T (ps b T i), τ2), by rw [if_pos (nI_lt c (by omega)), nI_1], he.2, rfl, fun m hm => ?_, tk, fr⟩
      by_cases e : m = i
      · rw [e]; exact c
      · exact p3 m (by omega)
    · left
      rw [if_neg (nI_nlt (by omega) (by omega))]
      exact ⟨τ2, i, rfl, ⟨hT, by omega, by omega, p3, fun m hm => tk m (by omega)⟩, fr⟩
theorem e_scan (h : LetC σ b T) (hl : σ 1 1 = nI T) : ∃ σ1 N, X10_scan σ = some σ1 ∧ Tok σ1 b T N ∧ σ1 1 = (st (st (st σ 1 1 0) 1 5 0) 1 6 (-1)) 1 ∧ ∀ c, c ≠ 1 → c ≠ 4 → c ≠ 6 → c ≠ 8 → σ1 c = σ c := by
  unfold X10_scan X10_useUp
  rw [pu_s, bd_s, bd2_s, pu_s, bd_s, pu_s, bd_s, hl]
  have h2 : LetC (st (st (st σ 1 1 0) 1 5 0) 1 6 (-1)) b T := ⟨h.1, fun k hk => by rw [st_n (by decide), st_n (by decide), st_n (by decide)]; exact h.2 k hk⟩
  obtain ⟨σ1, N, a1, a2, a3⟩ := e_scan19 h2
  exact ⟨σ1, N, a1, a2, a3 1 (by decide) (by decide) (by decide), fun c c1 c2 c3 c4 => by rw [a3 c c2 c3 c4, st_n c1, st_n c1, st_n c1]⟩
/-! at a term -/
theorem Tok.move (h : Tok σ b T N) (h4 : σ1 4 = σ 4) (h6 : σ1 6 = σ 6) (h8 : σ1 8 = σ 8) : Tok σ1 b T N := by
  unfold Tok TokAt at *
  rw [h4, h6, h8]
  exact h
theorem Tok.next (h : Tok σ b T N) (hj : j ≤ N) (ht : term b T (ps b T j) ≠ 1) : j + 1 ≤ N ∧ ps b T j < T := by
  have hl := term_lt ht
  have h3 := h.2.2.1
  refine ⟨?_, hl⟩
  by_cases e : j = N
  · subst e; omega
  · omega
theorem k_term (h : Tok σ b T N) (hj : j ≤ N) (hn : σ 1 5 = nI j) : X10_term σ = some (nI (term b T (ps b T j))) := by
  have hN := h.2.1
  have tr := term_rng (b := b) (T := T) (p := ps b T j)
  unfold X10_term X10_term_32
  rw [hn, if_neg (nI_pos (by omega)), if_neg (show ¬ nI (ln 4) ≤ nI j from by rw [ln4_]; exact nI_ge (by omega) (by omega)), ag_nI (by rw [ln4_]; omega) (by omega), bd_s, (h.2.2.2.2 j hj).1, if_neg (show ¬ nI (term b T (ps b T j)) = 0 from fun z => by have := nI_inj (b := 0) (by omega) (by omega) z; omega)]
theorem k_is (h : Tok σ b T N) (hj : j ≤ N) (hn : σ 1 5 = nI j) {t : Nat} (ht : t ≤ 32) : X10_is σ (nI t) = some (b2i (decide (term b T (ps b T j) = t))) := by
  have tr := term_rng (b := b) (T := T) (p := ps b T j)
  unfold X10_is
  rw [k_term h hj hn, bd_s, gt2_s tr.2 ht, bd_s]
  by_cases c : term b T (ps b T j) = t
  · rw [if_pos (by rw [c]), decide_eq_true c]; rfl
  · rw [if_neg (fun z => c (nI_inj (by omega) (by omega) z)), decide_eq_false c]; rfl
theorem k_take (h : Tok σ b T N) (hj : j ≤ N) (hn : σ 1 5 = nI j) {t : Nat} (ht : t ≤ 32) : X10_take (nI t) σ = if term b T (ps b T j) = t then some (1, st σ 1 5 (nI (j + 1))) else some (0, σ) := by
  have tr := term_rng (b := b) (T := T) (p := ps b T j)
  unfold X10_take
  rw [k_term h hj hn, bd_s, gt2_s tr.2 ht, bd_s]
  by_cases c : term b T (ps b T j) = t
  · rw [if_pos (by rw [c]), if_pos c, hn, pu_s, bd_s, nI_1]; rfl
  · rw [if_neg (fun z => c (nI_inj (by omega) (by omega) z)), if_neg c]; rfl
theorem k_wrong (h : Tok σ b T N) (hj : j ≤ N) (hn : σ 1 5 = nI j) : X10_wrong σ = some (0, st σ 1 6 (nI (ps b T j))) := by
  have hN := h.2.1
  unfold X10_wrong
  rw [hn, e_get (B := 5) (show j < ln 6 by rw [ln6]; omega) (by rw [ln6]; decide), bd_s, show σ (5 + 1) j = _ from (h.2.2.2.2 j hj).2.1, pu_s, bd_s]; rfl
theorem k_wrongB (h : Tok σ b T N) (hj : j ≤ N) (hn : σ 1 5 = nI (j + 1)) : X10_wrongBefore σ = some (0, st σ 1 6 (nI (ps b T j))) := by
  have hN := h.2.1
  unfold X10_wrongBefore
  rw [hn, show nI (j + 1) - (1 : Int32) = nI j from nI_pred j, e_get (B := 5) (show j < ln 6 by rw [ln6]; omega) (by rw [ln6]; decide), bd_s, show σ (5 + 1) j = _ from (h.2.2.2.2 j hj).2.1, pu_s, bd_s]; rfl
theorem k_need (h : Tok σ b T N) (hj : j ≤ N) (hn : σ 1 5 = nI j) {t : Nat} (ht : t ≤ 32) : X10_need (nI t) σ = if term b T (ps b T j) = t then some (1, st σ 1 5 (nI (j + 1))) else some (0, st σ 1 6 (nI (ps b T j))) := by
  unfold X10_need
  rw [k_take h hj hn ht]
  by_cases c : term b T (ps b T j) = t
  · rw [if_pos c, if_pos c, bd2_s, if_neg (by decide)]; rfl
  · rw [if_neg c, if_neg c, bd2_s, if_pos rfl, k_wrong h hj hn, bd2_s, if_pos rfl]; rfl
theorem k_upTo (h : Tok σ b T N) (hj : j ≤ N) (hn : σ 1 5 = nI j) {x : Int32} : X10_needUpTo x σ = if term b T (ps b T j) = 3 ∧ nI (val b T (ps b T j)) ≤ x then some (nI (val b T (ps b T j)), st σ 1 5 (nI (j + 1))) else some (-1, st σ 1 6 (nI (ps b T j))) := by
  have hN := h.2.1
  have tr := term_rng (b := b) (T := T) (p := ps b T j)
  have e25 : X10_needUpTo_25 σ = some (-1, st σ 1 6 (nI (ps b T j))) := by
    unfold X10_needUpTo_25
    rw [hn, e_get (B := 5) (show j < ln 6 by rw [ln6]; omega) (by rw [ln6]; decide), bd_s, show σ (5 + 1) j = _ from (h.2.2.2.2 j hj).2.1, pu_s, bd_s]
  unfold X10_needUpTo
  rw [k_term h hj hn, bd_s, show (3 : Int32) = nI 3 from rfl, gt2_s tr.2 (by omega), bd_s, e25]
  by_cases c : term b T (ps b T j) = 3
  · have hv := (h.2.2.2.2 j hj).2.2 c
    rw [if_pos (by rw [c]), hn, e_get (B := 7) (show j < ln 8 by rw [ln8]; omega) (by rw [ln8]; decide), bd_s, show σ (7 + 1) j = _ from hv]
    by_cases c2 : nI (val b T (ps b T j)) ≤ x
    · rw [if_pos c2, if_pos ⟨c, c2⟩, pu_s, bd_s, nI_1, st_at, show nI (j + 1) - (1 : Int32) = nI j from nI_pred j, e_get (B := 7) (show j < ln 8 by rw [ln8]; omega) (by rw [ln8]; decide), bd_s, st_n (by decide), show σ (7 + 1) j = _ from hv]
    · rw [if_neg c2, if_neg (fun z => c2 z.2)]
  · rw [if_neg (fun z => c (nI_inj (by omega) (by omega) z)), if_neg (fun z => c z.1)]
end SCAN

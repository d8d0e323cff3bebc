/-! a text without a memory: blanks, terms, numbers -/
def kdI (x : Int32) : Nat := if x < 97 then (if x < 48 then 0 else if 57 < x then 0 else 2) else if 122 < x then (if x < 48 then 0 else if 57 < x then 0 else 2) else 1
def skpF (b : Nat → Int32) : Nat → Nat → Nat
  | 0, i => i
  | m + 1, i => if b i = 32 then skpF b m (i + 1) else i
/-- behind the blanks -/
def skp (b : Nat → Int32) (T i : Nat) : Nat := skpF b (T - i) i
def rnF (b : Nat → Int32) (k : Nat) : Nat → Nat → Nat
  | 0, i => i
  | m + 1, i => if kdI (b i) = k then rnF b k m (i + 1) else i
def rn (b : Nat → Int32) (T k i : Nat) : Nat := rnF b k (T - i) i
/-- behind the term that begins at p -/
def tEnd (b : Nat → Int32) (T p : Nat) : Nat := if T ≤ p then T else if kdI (b p) = 0 then p + 1 else rn b T (kdI (b p)) (p + 1)
def wlen (s : Nat) : Nat := txL.getD s 0
def wch (s i : Nat) : Int32 := (txB.getD s []).getD i 0
def allR (f : Nat → Bool) : Nat → Bool
  | 0 => true
  | n + 1 => allR f n && f n
theorem allR_iff {f : Nat → Bool} {n : Nat} : allR f n = true ↔ ∀ i, i < n → f i = true := by
  induction n with
  | zero => simp [allR]
  | succ n ih =>
    simp only [allR, Bool.and_eq_true, ih]
    constructor
    · rintro ⟨h1, h2⟩ i hi
      by_cases e : i = n
      · rw [e]; exact h2
      · exact h1 i (by omega)
    · intro h
      exact ⟨fun i hi => h i (by omega), h n (by omega)⟩
def wdAt (b : Nat → Int32) (p e s : Nat) : Bool := decide (p + wlen s = e) && allR (fun i => decide (b (p + i) = wch s i)) (wlen s)
def fndW (b : Nat → Int32) (p e : Nat) : Nat → Nat → Nat
  | _, 0 => 2
  | s, m + 1 => if wdAt b p e s = true then s + 3 else fndW b p e (s + 1) m
/-- the term at p by its number: 1 the end, 2 none, 3 a number, then the words -/
def term (b : Nat → Int32) (T p : Nat) : Nat := if T ≤ p then 1 else if kdI (b p) = 2 then (if tEnd b T p - p ≤ 3 then 3 else 2) else fndW b p (tEnd b T p) 1 29
def valF (b : Nat → Int32) : Nat → Nat → Int32 → Int32
  | 0, _, a => a
  | m + 1, i, a => valF b m (i + 1) (((a * 10) + b i) - 48)
def valI (b : Nat → Int32) (T p : Nat) : Int32 := valF b (tEnd b T p - p) p 0
def nx (b : Nat → Int32) (T p : Nat) : Nat := skp b T (tEnd b T p)
section TEXT
variable {b : Nat → Int32} {T : Nat}
theorem skpF_le : ∀ {m i : Nat}, i ≤ skpF b m i ∧ skpF b m i ≤ i + m := by
  intro m
  induction m with
  | zero => intro i; exact ⟨Nat.le_refl _, Nat.le_refl _⟩
  | succ m ih =>
    intro i
    unfold skpF
    split
    · have := ih (i := i + 1); omega
    · omega
theorem skp_le {i : Nat} (h : i ≤ T) : i ≤ skp b T i ∧ skp b T i ≤ T := by
  have := skpF_le (b := b) (m := T - i) (i := i)
  unfold skp
  omega
theorem skp_s {i : Nat} (h : i < T) : skp b T i = if b i = 32 then skp b T (i + 1) else i := by
  unfold skp
  rw [show T - i = (T - (i + 1)) + 1 by omega]
  rfl
theorem skp_T {i : Nat} (h : T ≤ i) : skp b T i = i := by
  unfold skp
  rw [show T - i = 0 by omega]
  rfl
theorem skp_no {i : Nat} (h : i < T) (h2 : b (skp b T i) = 32) : skp b T i = T := by
  have key : ∀ m i, i + m = T → b (skp b T i) = 32 → skp b T i = T := by
    intro m
    induction m with
    | zero => intro i hi _; rw [skp_T (by omega)]; omega
    | succ m ih =>
      intro i hi hb
      rw [skp_s (by omega)] at hb ⊢
      split
      · rename_i hc
        rw [if_pos hc] at hb
        exact ih (i + 1) (by omega) hb
      · rename_i hc
        rw [if_neg hc] at hb
        exact absurd hb hc
  exact key (T - i) i (by omega) h2
theorem skp_id {i : Nat} (h : i ≤ T) : skp b T (skp b T i) = skp b T i := by
  by_cases e : skp b T i = T
  · rw [e, skp_T (Nat.le_refl _)]
  · have h1 := skp_le (b := b) h
    have : i < T := by omega
    rw [skp_s (i := skp b T i) (by omega), if_neg (fun z => e (skp_no this z))]
theorem rnF_le {k : Nat} : ∀ {m i : Nat}, i ≤ rnF b k m i ∧ rnF b k m i ≤ i + m := by
  intro m
  induction m with
  | zero => intro i; exact ⟨Nat.le_refl _, Nat.le_refl _⟩
  | succ m ih =>
    intro i
    unfold rnF
    split
    · have := ih (i := i + 1); omega
    · omega
theorem rn_le {k i : Nat} (h : i ≤ T) : i ≤ rn b T k i ∧ rn b T k i ≤ T := by
  have := rnF_le (b := b) (k := k) (m := T - i) (i := i)
  unfold rn
  omega
theorem rn_s {k i : Nat} (h : i < T) : rn b T k i = if kdI (b i) = k then rn b T k (i + 1) else i := by
  unfold rn
  rw [show T - i = (T - (i + 1)) + 1 by omega]
  rfl
theorem rn_T {k i : Nat} (h : T ≤ i) : rn b T k i = i := by
  unfold rn
  rw [show T - i = 0 by omega]
  rfl
theorem tEnd_le {p : Nat} (h : p < T) : p < tEnd b T p ∧ tEnd b T p ≤ T := by
  unfold tEnd
  rw [if_neg (by omega)]
  split
  · omega
  · have := rn_le (b := b) (T := T) (k := kdI (b p)) (i := p + 1) (by omega)
    omega
theorem nx_gt {p : Nat} (h : p < T) : p < nx b T p ∧ nx b T p ≤ T := by
  have h1 := tEnd_le (b := b) h
  have h2 := skp_le (b := b) h1.2
  unfold nx
  omega
theorem nx_id {p : Nat} (h : p < T) : skp b T (nx b T p) = nx b T p := skp_id (tEnd_le h).2
def wdEq (s s2 : Nat) : Bool := decide (wlen s = wlen s2) && allR (fun i => decide (wch s i = wch s2 i)) (wlen s)
theorem wd_one_ : ∀ s, s < 30 → ∀ s2, s2 < 30 → wdEq s s2 = true → s = s2 ∨ wlen s = 0 := by decide +kernel
theorem wlen_ : ∀ s, s < 30 → wlen s < 7 ∧ (1 ≤ s → 1 ≤ wlen s) ∧ (7 ≤ s → 2 ≤ wlen s) := by decide +kernel
theorem wd_uniq {p e s s2 : Nat} (h1 : s < 30) (h2 : s2 < 30) (h0 : 1 ≤ s) (a : wdAt b p e s = true) (c : wdAt b p e s2 = true) : s = s2 := by
  unfold wdAt at a c
  rw [Bool.and_eq_true, decide_eq_true_eq, allR_iff] at a c
  have hl : wlen s = wlen s2 := by omega
  have he : wdEq s s2 = true := by
    unfold wdEq
    rw [Bool.and_eq_true, decide_eq_true_eq, allR_iff]
    refine ⟨hl, fun i hi => ?_⟩
    have x1 := a.2 i hi
    have x2 := c.2 i (by omega)
    rw [decide_eq_true_eq] at x1 x2 ⊢
    rw [← x1, ← x2]
  rcases wd_one_ s h1 s2 h2 he with h | h
  · exact h
  · have := (wlen_ s h1).2.1 h0; omega
theorem fndW_is {p e : Nat} : ∀ {m s : Nat}, s + m = 30 → 1 ≤ s → ∀ t, 1 ≤ t → t < 30 → s ≤ t → (fndW b p e s m = t + 3 ↔ wdAt b p e t = true) := by
  intro m
  induction m with
  | zero => intro s hs h1 t ht1 ht2 hst; omega
  | succ m ih =>
    intro s hs h1 t ht1 ht2 hst
    unfold fndW
    by_cases c : wdAt b p e s = true
    · rw [if_pos c]
      constructor
      · intro h; rw [show t = s by omega]; exact c
      · intro h; have := wd_uniq (by omega) ht2 h1 c h; omega
    · rw [if_neg c]
      by_cases hst2 : s = t
      · subst hst2
        refine ⟨fun h => ?_, fun h => absurd h c⟩
        have : ∀ m s, s + m = 30 → ∀ t, t < s → fndW b p e s m ≠ t + 3 ∨ t + 3 = 2 := by
          intro m
          induction m with
          | zero => intro s _ t _; unfold fndW; omega
          | succ m ih2 =>
            intro s hs t ht
            unfold fndW
            split
            · omega
            · exact ih2 (s + 1) (by omega) t (by omega)
        rcases this m (s + 1) (by omega) s (by omega) with q | q
        · exact absurd h q
        · omega
      · exact ih (by omega) (by omega) t ht1 ht2 (by omega)
theorem term_T {p : Nat} (h : T ≤ p) : term b T p = 1 := by unfold term; rw [if_pos h]
theorem fndW_2 {p e : Nat} : ∀ {m s : Nat}, 1 ≤ s → s + m = 30 → fndW b p e s m = 2 ∨ (4 ≤ fndW b p e s m ∧ fndW b p e s m ≤ 32) := by
  intro m
  induction m with
  | zero => intro s _ _; exact Or.inl rfl
  | succ m ih =>
    intro s h1 h2
    unfold fndW
    split
    · omega
    · exact ih (by omega) (by omega)
theorem term_rng {p : Nat} : 1 ≤ term b T p ∧ term b T p ≤ 32 := by
  unfold term
  split
  · omega
  · split
    · split <;> omega
    · rcases fndW_2 (b := b) (p := p) (e := tEnd b T p) (m := 29) (s := 1) (by omega) rfl with h | h
      · omega
      · omega
theorem term_1 {p : Nat} : term b T p = 1 ↔ T ≤ p := by
  constructor
  · intro h
    apply Classical.byContradiction
    intro hn
    unfold term at h
    rw [if_neg hn] at h
    split at h
    · split at h <;> omega
    · rcases fndW_2 (b := b) (p := p) (e := tEnd b T p) (m := 29) (s := 1) (by omega) rfl with q | q
      · omega
      · omega
  · exact term_T
theorem term_lt {p : Nat} (h : term b T p ≠ 1) : p < T := by
  apply Classical.byContradiction
  intro q
  exact h (term_T (by omega))
/-- a word, or a sign, stands at p -/
theorem term_wd {p s : Nat} (h1 : 1 ≤ s) (h2 : s < 30) : term b T p = s + 3 ↔ p < T ∧ kdI (b p) ≠ 2 ∧ wdAt b p (tEnd b T p) s = true := by
  unfold term
  by_cases c : T ≤ p
  · rw [if_pos c]; omega
  · rw [if_neg c]
    by_cases k : kdI (b p) = 2
    · rw [if_pos k]
      split <;> simp [k] <;> omega
    · rw [if_neg k, fndW_is (m := 29) (s := 1) rfl (by omega) s h1 h2 h1]
      simp [k, show p < T by omega]
theorem term_num {p : Nat} : term b T p = 3 ↔ p < T ∧ kdI (b p) = 2 ∧ tEnd b T p - p ≤ 3 := by
  unfold term
  by_cases c : T ≤ p
  · rw [if_pos c]; omega
  · rw [if_neg c]
    by_cases k : kdI (b p) = 2
    · rw [if_pos k]
      split
      · rename_i h; simp [k, h]; omega
      · rename_i h; simp [h]
    · rw [if_neg k]
      constructor
      · intro h
        rcases fndW_2 (b := b) (p := p) (e := tEnd b T p) (m := 29) (s := 1) (by omega) rfl with q | q
        · omega
        · omega
      · intro h; exact absurd h.2.1 k
/-! digits -/
theorem kd2_nI {x : Int32} (h : kdI x = 2) : ∃ d, d ≤ 9 ∧ x = nI (48 + d) := by
  unfold kdI at h
  have hx : ¬ x < 48 ∧ ¬ 57 < x := by
    split at h
    · split at h
      · omega
      · split at h
        · omega
        · rename_i h1 h2; exact ⟨h1, h2⟩
    · split at h
      · split at h
        · omega
        · split at h
          · omega
          · rename_i h1 h2; exact ⟨h1, h2⟩
      · omega
  obtain ⟨n, n1, rfl⟩ := nI_of2 (M := 57) (n := 57) (by decide) (fun z => hx.1 (Int32.lt_trans z (by decide))) (Int32.not_lt.mp hx.2)
  have : 48 ≤ n := by
    apply Classical.byContradiction
    intro z
    exact hx.1 (nI_lt (b := 48) (by omega) (by omega))
  exact ⟨n - 48, by omega, by rw [show 48 + (n - 48) = n by omega]⟩
theorem kd2_iff {x : Int32} : kdI x = 2 ↔ ¬ x < 48 ∧ ¬ 57 < x := by
  constructor
  · intro h
    obtain ⟨d, h1, rfl⟩ := kd2_nI h
    exact ⟨nI_nlt (a := 48 + d) (b := 48) (by omega) (by omega), nI_nlt (a := 57) (by omega) (by omega)⟩
  · intro h
    unfold kdI
    rw [if_pos (show x < 97 from Int32.lt_of_le_of_lt (Int32.not_lt.mp h.2) (by decide)), if_neg h.1, if_neg h.2]
theorem kd1_iff {x : Int32} : kdI x = 1 ↔ ¬ x < 97 ∧ ¬ 122 < x := by
  unfold kdI
  by_cases h1 : x < 97
  · rw [if_pos h1]
    constructor
    · intro h; split at h
      · omega
      · split at h <;> omega
    · intro h; exact absurd h1 h.1
  · rw [if_neg h1]
    by_cases h2 : 122 < x
    · rw [if_pos h2]
      constructor
      · intro h; split at h
        · omega
        · split at h <;> omega
      · intro h; exact absurd h2 h.2
    · rw [if_neg h2]; simp [h1, h2]
theorem rn_kd {k : Nat} : ∀ {i j : Nat}, i ≤ j → j < rn b T k i → kdI (b j) = k := by
  have key : ∀ m i, i + m = T → ∀ j, i ≤ j → j < rn b T k i → kdI (b j) = k := by
    intro m
    induction m with
    | zero => intro i hi j h1 h2; rw [rn_T (by omega)] at h2; omega
    | succ m ih =>
      intro i hi j h1 h2
      rw [rn_s (by omega)] at h2
      split at h2
      · rename_i hc
        by_cases e : j = i
        · rw [e]; exact hc
        · exact ih (i + 1) (by omega) j (by omega) h2
      · omega
  intro i j h1 h2
  by_cases hi : i ≤ T
  · exact key (T - i) i (by omega) j h1 h2
  · rw [rn_T (by omega)] at h2; omega
theorem tEnd_kd {p j : Nat} (hp : p < T) (h1 : p ≤ j) (h2 : j < tEnd b T p) : kdI (b j) = kdI (b p) := by
  unfold tEnd at h2
  rw [if_neg (by omega)] at h2
  split at h2
  · rw [show j = p by omega]
  · by_cases e : j = p
    · rw [e]
    · exact rn_kd (by omega) h2
theorem tEnd_rn {p : Nat} (hp : p < T) (h : kdI (b p) ≠ 0) : tEnd b T p = rn b T (kdI (b p)) p := by
  unfold tEnd
  rw [if_neg (by omega), if_neg h, rn_s hp, if_pos rfl]
/-- the number that stands there -/
theorem valF_nI : ∀ {m i a : Nat}, m ≤ 3 → (∀ j, i ≤ j → j < i + m → kdI (b j) = 2) → a < 1000 → ∃ n, n < (a + 1) * 10 ^ m ∧ valF b m i (nI a) = nI n := by
  intro m
  induction m with
  | zero => intro i a _ _ _; exact ⟨a, by omega, rfl⟩
  | succ m ih =>
    intro i a hm hk ha
    obtain ⟨d, d1, d2⟩ := kd2_nI (hk i (Nat.le_refl _) (by omega))
    unfold valF
    rw [d2, show (10 : Int32) = nI 10 from rfl, nI_mul, nI_add, show nI (a * 10 + (48 + d)) - 48 = nI (a * 10 + d) from by rw [show (48 : Int32) = nI 48 from rfl, nI_subN (by omega)]; congr 1; omega]
    by_cases hb : a * 10 + d < 1000
    · obtain ⟨n, n1, n2⟩ := ih (i := i + 1) (a := a * 10 + d) (by omega) (fun j h1 h2 => hk j (by omega) (by omega)) hb
      refine ⟨n, ?_, n2⟩
      have : (a * 10 + d + 1) * 10 ^ m ≤ (a + 1) * 10 ^ (m + 1) := by
        rw [Nat.pow_succ, Nat.mul_comm (10 ^ m) 10, ← Nat.mul_assoc]
        exact Nat.mul_le_mul_right _ (by omega)
      omega
    · have key : ∀ m i x, (∀ j, i ≤ j → j < i + m → kdI (b j) = 2) → ∃ n, n < (x + 1) * 10 ^ m ∧ valF b m i (nI x) = nI n := by
        intro m
        induction m with
        | zero => intro i x _; exact ⟨x, by omega, rfl⟩
        | succ m ih2 =>
          intro i x hk
          obtain ⟨d, d1, d2⟩ := kd2_nI (hk i (Nat.le_refl _) (by omega))
          unfold valF
          rw [d2, show (10 : Int32) = nI 10 from rfl, nI_mul, nI_add, show nI (x * 10 + (48 + d)) - 48 = nI (x * 10 + d) from by rw [show (48 : Int32) = nI 48 from rfl, nI_subN (by omega)]; congr 1; omega]
          obtain ⟨n, n1, n2⟩ := ih2 (i + 1) (x * 10 + d) (fun j h1 h2 => hk j (by omega) (by omega))
          refine ⟨n, ?_, n2⟩
          have : (x * 10 + d + 1) * 10 ^ m ≤ (x + 1) * 10 ^ (m + 1) := by
            rw [Nat.pow_succ, Nat.mul_comm (10 ^ m) 10, ← Nat.mul_assoc]
            exact Nat.mul_le_mul_right _ (by omega)
          omega
      obtain ⟨n, n1, n2⟩ := key m (i + 1) (a * 10 + d) (fun j h1 h2 => hk j (by omega) (by omega))
      refine ⟨n, ?_, n2⟩
      have : (a * 10 + d + 1) * 10 ^ m ≤ (a + 1) * 10 ^ (m + 1) := by
        rw [Nat.pow_succ, Nat.mul_comm (10 ^ m) 10, ← Nat.mul_assoc]
        exact Nat.mul_le_mul_right _ (by omega)
      omega
def val (b : Nat → Int32) (T p : Nat) : Nat := (valI b T p).toNatClampNeg
theorem val_I {p : Nat} (h : term b T p = 3) : valI b T p = nI (val b T p) ∧ val b T p ≤ 999 := by
  obtain ⟨h1, h2, h3⟩ := term_num.mp h
  have h4 := tEnd_le (b := b) h1
  obtain ⟨n, n1, n2⟩ := valF_nI (b := b) (m := tEnd b T p - p) (i := p) (a := 0) h3 (fun j j1 j2 => by rw [tEnd_kd h1 j1 (by omega)]; exact h2) (by omega)
  have n3 : valI b T p = nI n := n2
  have : (0 + 1) * 10 ^ (tEnd b T p - p) ≤ 1000 := by
    have : tEnd b T p - p = 1 ∨ tEnd b T p - p = 2 ∨ tEnd b T p - p = 3 := by omega
    rcases this with q | q | q <;> rw [q] <;> decide
  have hv : val b T p = n := by unfold val; rw [n3, nI_clamp (by omega)]
  rw [hv]
  exact ⟨n3, by omega⟩
end TEXT

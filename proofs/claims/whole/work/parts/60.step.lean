/-! the lowest of some -/
def lowL (f : Nat → Bool) : Nat → Nat → Option Nat
  | _, 0 => none
  | i, m + 1 => if f i = true then some i else lowL f (i + 1) m
theorem lowL_some {f : Nat → Bool} : ∀ (m i j : Nat), lowL f i m = some j ↔ i ≤ j ∧ j < i + m ∧ f j = true ∧ ∀ x, i ≤ x → x < j → f x = false := by
  intro m
  induction m with
  | zero =>
    intro i j
    simp only [lowL]
    constructor
    · intro h; cases h
    · rintro ⟨h1, h2, -⟩; omega
  | succ m ih =>
    intro i j
    unfold lowL
    by_cases h : f i = true
    · rw [if_pos h]
      constructor
      · intro e; cases e; exact ⟨Nat.le_refl _, by omega, h, fun x h1 h2 => absurd h2 (by omega)⟩
      · rintro ⟨h1, h2, h3, h4⟩
        by_cases e : j = i
        · rw [e]
        · have := h4 i (Nat.le_refl _) (by omega); rw [h] at this; cases this
    · rw [if_neg h, ih (i + 1) j]
      constructor
      · rintro ⟨h1, h2, h3, h4⟩
        refine ⟨by omega, by omega, h3, fun x x1 x2 => ?_⟩
        by_cases e : x = i
        · rw [e]; simpa using h
        · exact h4 x (by omega) x2
      · rintro ⟨h1, h2, h3, h4⟩
        have : j ≠ i := fun e => h (by rw [← e]; exact h3)
        exact ⟨by omega, by omega, h3, fun x x1 x2 => h4 x (by omega) x2⟩
theorem e_lowest {σ : Mem} {f : Nat → Bool} {n : Nat} (hn : n ≤ 31) : X11_lowest σ (mkB f n) = some (oI (lowL (fun j => decide (j < n) && f j) 0 9)) := by
  have key : ∀ (m i fuel : Nat), i + m = 9 → m < fuel → X11_lowest_2 σ fuel (mkB f n) (nI i) = some (oI (lowL (fun j => decide (j < n) && f j) i m)) := by
    intro m
    induction m with
    | zero =>
      intro i fuel hi hf
      obtain ⟨fuel, rfl⟩ : ∃ z, fuel = z + 1 := ⟨fuel - 1, by omega⟩
      rw [X11_lowest_2, if_pos (show (9 : Int32) ≤ nI i from nI_le (a := 9) (by omega) (by omega))]
      rfl
    | succ m ih =>
      intro i fuel hi hf
      obtain ⟨fuel, rfl⟩ : ∃ z, fuel = z + 1 := ⟨fuel - 1, by omega⟩
      rw [X11_lowest_2, if_neg (show ¬ (9 : Int32) ≤ nI i from nI_ge (b := 9) (by omega) (by omega)), e_hasBit, hb_mk hn (by omega), bd_s, lowL]
      by_cases h : (decide (i < n) && f i) = true
      · rw [if_neg (by rw [b2i_0, h]; decide), if_pos h]; rfl
      · rw [if_pos (by rw [b2i_0]; simpa using h), if_neg h, ← nI_succ]
        exact ih (i + 1) fuel (by omega) (by omega)
  exact key 9 0 FU rfl (by decide)

/-! steps from a pane, from either side -/
section BALL
variable {v : View}
theorem sp_iff {f : Nat → Bool} {q : Nat} : v.sp f q = true ↔ f q = true ∨ ∃ p, p < v.n ∧ f p = true ∧ v.way p q = true := by
  unfold View.sp View.ar
  rw [Bool.or_eq_true, anyR_iff]
  constructor
  · rintro (h | ⟨p, -, h2, h3⟩)
    · exact Or.inl h
    · rw [Bool.and_eq_true] at h3; exact Or.inr ⟨p, by omega, h3.1, h3.2⟩
  · rintro (h | ⟨p, h1, h2, h3⟩)
    · exact Or.inl h
    · exact Or.inr ⟨p, by omega, by omega, by rw [h2, h3]; rfl⟩
theorem ball_mono {p q t : Nat} (h : v.ball p t q = true) : v.ball p (t + 1) q = true := sp_iff.mpr (Or.inl h)
theorem ball_le {p q s t : Nat} (hst : s ≤ t) (h : v.ball p s q = true) : v.ball p t q = true := by
  obtain ⟨d, rfl⟩ := Nat.le.dest hst
  clear hst
  induction d with
  | zero => exact h
  | succ d ih => exact ball_mono ih
theorem ball_left {p : Nat} (hp : p < v.n) : ∀ (t q : Nat), q < v.n → (v.ball p (t + 1) q = true ↔ v.ball p t q = true ∨ ∃ r, r < v.n ∧ v.way p r = true ∧ v.ball r t q = true) := by
  intro t
  induction t with
  | zero =>
    intro q hq
    rw [show v.ball p (0 + 1) = v.sp (v.ball p 0) from rfl, sp_iff]
    have e : ∀ a b, v.ball a 0 b = true ↔ b = a := fun a b => by show decide (b = a) = true ↔ _; simp
    simp only [e]
    constructor
    · rintro (h | ⟨r, h1, rfl, h3⟩)
      · exact Or.inl h
      · exact Or.inr ⟨q, hq, h3, rfl⟩
    · rintro (h | ⟨r, h1, h2, rfl⟩)
      · exact Or.inl h
      · exact Or.inr ⟨p, hp, rfl, h2⟩
  | succ t ih =>
    intro q hq
    rw [show v.ball p (t + 1 + 1) = v.sp (v.ball p (t + 1)) from rfl, sp_iff]
    constructor
    · rintro (h | ⟨r, h1, h2, h3⟩)
      · exact Or.inl h
      · rcases (ih r h1).mp h2 with h4 | ⟨x, x1, x2, x3⟩
        · exact Or.inl (sp_iff.mpr (Or.inr ⟨r, h1, h4, h3⟩))
        · exact Or.inr ⟨x, x1, x2, sp_iff.mpr (Or.inr ⟨r, h1, x3, h3⟩)⟩
    · rintro (h | ⟨x, x1, x2, x3⟩)
      · exact Or.inl h
      · rcases sp_iff.mp x3 with h4 | ⟨r, r1, r2, r3⟩
        · exact Or.inl ((ih q hq).mpr (Or.inr ⟨x, x1, x2, h4⟩))
        · exact Or.inr ⟨r, r1, (ih r r1).mpr (Or.inr ⟨x, x1, x2, r2⟩), r3⟩
theorem ball_sym (W : WF v) : ∀ (t p q : Nat), p < v.n → q < v.n → (v.ball p t q = true ↔ v.ball q t p = true) := by
  intro t
  induction t with
  | zero =>
    intro p q hp hq
    show decide (q = p) = true ↔ decide (p = q) = true
    simp only [decide_eq_true_eq]
    exact eq_comm
  | succ t ih =>
    intro p q hp hq
    rw [ball_left hq t p hp, show v.ball p (t + 1) = v.sp (v.ball p t) from rfl, sp_iff, ih p q hp hq]
    constructor
    · rintro (h | ⟨r, h1, h2, h3⟩)
      · exact Or.inl h
      · exact Or.inr ⟨r, h1, by rw [W.sym q r hq h1]; exact h3, (ih p r hp h1).mp h2⟩
    · rintro (h | ⟨r, h1, h2, h3⟩)
      · exact Or.inl h
      · exact Or.inr ⟨r, h1, (ih p r hp h1).mpr h3, by rw [W.sym r q h1 hq]; exact h2⟩
/-- the first step at which it is reached -/
theorem farL_some {p q : Nat} : ∀ (m t s : Nat), v.farL p q t m = some s ↔ t ≤ s ∧ s < t + m ∧ v.ball p s q = true ∧ ∀ x, t ≤ x → x < s → v.ball p x q = false := by
  intro m
  induction m with
  | zero =>
    intro t s
    simp only [View.farL]
    constructor
    · intro h; cases h
    · rintro ⟨h1, h2, -⟩; omega
  | succ m ih =>
    intro t s
    unfold View.farL
    by_cases h : v.ball p t q = true
    · rw [if_pos h]
      constructor
      · intro e; cases e; exact ⟨Nat.le_refl _, by omega, h, fun x h1 h2 => absurd h2 (by omega)⟩
      · rintro ⟨h1, h2, h3, h4⟩
        by_cases e : s = t
        · rw [e]
        · have := h4 t (Nat.le_refl _) (by omega); rw [h] at this; cases this
    · rw [if_neg h, ih (t + 1) s]
      constructor
      · rintro ⟨h1, h2, h3, h4⟩
        refine ⟨by omega, by omega, h3, fun x x1 x2 => ?_⟩
        by_cases e : x = t
        · rw [e]; simpa using h
        · exact h4 x (by omega) x2
      · rintro ⟨h1, h2, h3, h4⟩
        have : s ≠ t := fun e => h (by rw [← e]; exact h3)
        exact ⟨by omega, by omega, h3, fun x x1 x2 => h4 x (by omega) x2⟩
theorem far_some {p q s : Nat} : v.far p q = some s ↔ s < 9 ∧ v.ball p s q = true ∧ ∀ x, x < s → v.ball p x q = false := by
  unfold View.far
  rw [farL_some]
  constructor
  · rintro ⟨-, h2, h3, h4⟩; exact ⟨by omega, h3, fun x hx => h4 x (by omega) hx⟩
  · rintro ⟨h2, h3, h4⟩; exact ⟨by omega, by omega, h3, fun x _ hx => h4 x hx⟩
end BALL

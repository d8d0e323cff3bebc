/-! steps from a pane, from either side -/
section BALL
variable {v : View}
theorem sp_iff {f : Nat → Bool} {q : Nat} : v.sp f q = true ↔ f q = true ∨ ∃ p, p < v.n ∧ f p = true ∧ v.way p q = true := by
  unfold View.sp View.ar
  rw [Bool.or_eq_true, anyR_iff]
  constructor
  · rintro (h | ⟨p, -, h2, h3⟩)
    · exact Or.inl h
    · rw [Bool.and_eq_true] at h3; exact Or.inr ⟨p, by omega, h3.1, h3.2⟩
  · rintro (h | ⟨p, h1, h2, h3⟩)
    · exact Or.inl h
    · exact Or.inr ⟨p, by omega, by omega, by rw [h2, h3]; rfl⟩
theorem ball_mono {p q t : Nat} (h : v.ball p t q = true) : v.ball p (t + 1) q = true := sp_iff.mpr (Or.inl h)
theorem ball_le {p q s t : Nat} (hst : s ≤ t) (h : v.ball p s q = true) : v.ball p t q = true := by
  obtain ⟨d, rfl⟩ := Nat.le.dest hst
  clear hst
  induction d with
  | zero => exact h
  | succ d ih => exact ball_mono ih
theorem ball_left {p : Nat} (hp : p < v.n) : ∀ (t q : Nat), q < v.n → (v.ball p (t + 1) q = true ↔ v.ball p t q = true ∨ ∃ r, r < v.n ∧ v.way p r = true ∧ v.ball r t q = true) := by
  intro t
  induction t with
  | zero =>
    intro q hq
    rw [show v.ball p (0 + 1) = v.sp (v.ball p 0) from rfl, sp_iff]
    have e : ∀ a b, v.ball a 0 b = true ↔ b = a := fun a b => by show decide (b = a) = true ↔ _; simp
    simp only [e]
    constructor
    · rintro (h | ⟨r, h1, rfl, h3⟩)
      · exact Or.inl h
      · exact Or.inr ⟨q, hq, h3, rfl⟩
    · rintro (h | ⟨r, h1, h2, rfl⟩)
      · exact Or.inl h
      · exact Or.inr ⟨p, hp, rfl, h2⟩
  | succ t ih =>
    intro q hq
    rw [show v.ball p (t + 1 + 1) = v.sp (v.ball p (t + 1)) from rfl, sp_iff]
    constructor
    · rintro (h | ⟨r, h1, h2, h3⟩)
      · exact Or.inl h
      · rcases (ih r h1).mp h2 with h4 | ⟨x, x1, x2, x3⟩
        · exact Or.inl (sp_iff.mpr (Or.inr ⟨r, h1, h4, h3⟩))
        · exact Or.inr ⟨x, x1, x2, sp_iff.mpr (Or.inr ⟨r, h1, x3, h3⟩)⟩
    · rintro (h | ⟨x, x1, x2, x3⟩)
      · exact Or.inl h
      · rcases sp_iff.mp x3 with h4 | ⟨r, r1, r2, r3⟩
        · exact Or.inl ((ih q hq).mpr (Or.inr ⟨x, x1, x2, h4⟩))
        · exact Or.inr ⟨r, r1, (ih r r1).mpr (Or.inr ⟨x, x1, x2, r2⟩), r3⟩
theorem ball_sym (W : WF v) : ∀ (t p q : Nat), p < v.n → q < v.n → (v.ball p t q = true ↔ v.ball q t p = true) := by
  intro t
  induction t with
  | zero =>
    intro p q hp hq
    show decide (q = p) = true ↔ decide (p = q) = true
    simp only [decide_eq_true_eq]
    exact eq_comm
  | succ t ih =>
    intro p q hp hq
    rw [ball_left hq t p hp, show v.ball p (t + 1) = v.sp (v.ball p t) from rfl, sp_iff, ih p q hp hq]
    constructor
    · rintro (h | ⟨r, h1, h2, h3⟩)
      · exact Or.inl h
      · exact Or.inr ⟨r, h1, by rw [W.sym q r hq h1]; exact h3, (ih p r hp h1).mp h2⟩
    · rintro (h | ⟨r, h1, h2, h3⟩)
      · exact Or.inl h
      · exact Or.inr ⟨r, h1, (ih p r hp h1).mpr h3, by rw [W.sym r q h1 hq]; exact h2⟩
/-- the first step at which it is reached -/
theorem farL_some {p q : Nat} : ∀ (m t s : Nat), v.farL p q t m = some s ↔ t ≤ s ∧ s < t + m ∧ v.ball p s q = true ∧ ∀ x, t ≤ x → x < s → v.ball p x q = false := by
  intro m
  induction m with
  | zero =>
    intro t s
    simp only [View.farL]
    constructor
    · intro h; cases h
    · rintro ⟨h1, h2, -⟩; omega
  | succ m ih =>
    intro t s
    unfold View.farL
    by_cases h : v.ball p t q = true
    · rw [if_pos h]
      constructor
      · intro e; cases e; exact ⟨Nat.le_refl _, by omega, h, fun x h1 h2 => absurd h2 (by omega)⟩
      · rintro ⟨h1, h2, h3, h4⟩
        by_cases e : s = t
        · rw [e]
        · have := h4 t (Nat.le_refl _) (by omega); rw [h] at this; cases this
    · rw [if_neg h, ih (t + 1) s]
      constructor
      · rintro ⟨h1, h2, h3, h4⟩
        refine ⟨by omega, by omega, h3, fun x x1 x2 => ?_⟩
        by_cases e : x = t
        · rw [e]; simpa using h
        · exact h4 x (by omega) x2
      · rintro ⟨h1, h2, h3, h4⟩
        have : s ≠ t := fun e => h (by rw [← e]; exact h3)
        exact ⟨by omega, by omega, h3, fun x x1 x2 => h4 x (by omega) x2⟩
theorem far_some {p q s : Nat} : v.far p q = some s ↔ s < 9 ∧ v.ball p s q = true ∧ ∀ x, x < s → v.ball p x q = false := by
  unfold View.far
  rw [farL_some]
  constructor
  · rintro ⟨-, h2, h3, h4⟩; exact ⟨by omega, h3, fun x hx => h4 x (by omega) hx⟩
  · rintro ⟨h2, h3, h4⟩; exact ⟨by omega, by omega, h3, fun x _ hx => h4 x hx⟩
end BALL
/-! nothing new behind eight steps -/
def cnt (f : Nat → Bool) : Nat → Nat
  | 0 => 0
  | n + 1 => cnt f n + if f n = true then 1 else 0
theorem cnt_le {f : Nat → Bool} : ∀ n, cnt f n ≤ n := by
  intro n
  induction n with
  | zero => exact Nat.le_refl _
  | succ n ih => unfold cnt; split <;> omega
theorem cnt_mono {f g : Nat → Bool} : ∀ n, (∀ i, i < n → f i = true → g i = true) → cnt f n ≤ cnt g n := by
  intro n
  induction n with
  | zero => intro _; exact Nat.le_refl _
  | succ n ih =>
    intro h
    have h1 := ih (fun i hi => h i (by omega))
    unfold cnt
    by_cases hf : f n = true
    · rw [if_pos hf, if_pos (h n (by omega) hf)]; omega
    · rw [if_neg hf]; split <;> omega
theorem cnt_lt {f g : Nat → Bool} : ∀ n, (∀ i, i < n → f i = true → g i = true) → (∃ i, i < n ∧ f i = false ∧ g i = true) → cnt f n < cnt g n := by
  intro n
  induction n with
  | zero => rintro _ ⟨i, h, -⟩; omega
  | succ n ih =>
    rintro h ⟨i, h1, h2, h3⟩
    unfold cnt
    by_cases e : i = n
    · subst e
      have := cnt_mono i (f := f) (g := g) (fun j hj => h j (by omega))
      rw [if_neg (by rw [h2]; decide), if_pos h3]; omega
    · have := ih (fun j hj => h j (by omega)) ⟨i, by omega, h2, h3⟩
      by_cases hf : f n = true
      · rw [if_pos hf, if_pos (h n (by omega) hf)]; omega
      · rw [if_neg hf]; split <;> omega
section BALL2
variable {v : View}
theorem sp_congr {f g : Nat → Bool} (h : ∀ i, i < v.n → f i = g i) : ∀ q, q < v.n → v.sp f q = v.sp g q := by
  intro q hq
  have h2 : v.sp f q = true ↔ v.sp g q = true := by
    rw [sp_iff, sp_iff, h q hq]
    constructor
    · rintro (h1 | ⟨p, h1, h2, h3⟩)
      · exact Or.inl h1
      · exact Or.inr ⟨p, h1, by rw [← h p h1]; exact h2, h3⟩
    · rintro (h1 | ⟨p, h1, h2, h3⟩)
      · exact Or.inl h1
      · exact Or.inr ⟨p, h1, by rw [h p h1]; exact h2, h3⟩
  cases h3 : v.sp f q <;> cases h4 : v.sp g q <;> simp_all
theorem ball_grow {p : Nat} (hp : p < v.n) : ∀ t, (∃ q, q < v.n ∧ v.ball p t q = false ∧ v.ball p (t + 1) q = true) → t + 1 < cnt (v.ball p (t + 1)) v.n + 0 := by
  intro t
  induction t with
  | zero =>
    intro h
    have h1 := cnt_lt v.n (f := v.ball p 0) (g := v.ball p 1) (fun i _ hi => ball_mono hi) h
    have h2 : 0 < cnt (v.ball p 0) v.n := Nat.lt_of_le_of_lt (Nat.zero_le _) (cnt_lt v.n (f := fun _ => false) (g := v.ball p 0) (fun i _ hi => nomatch hi) ⟨p, hp, rfl, by show decide (p = p) = true; simp⟩)
    show 0 + 1 < cnt (v.ball p 1) v.n + 0
    omega
  | succ t ih =>
    intro h
    have h1 := cnt_lt v.n (f := v.ball p (t + 1)) (g := v.ball p (t + 1 + 1)) (fun i _ hi => ball_mono hi) h
    have h2 : ∃ q, q < v.n ∧ v.ball p t q = false ∧ v.ball p (t + 1) q = true := by
      apply Classical.byContradiction
      intro hn
      have he : ∀ i, i < v.n → v.ball p t i = v.ball p (t + 1) i := fun i hi => by
        cases h3 : v.ball p t i with
        | true => exact (ball_mono h3).symm
        | false =>
          cases h4 : v.ball p (t + 1) i with
          | false => rfl
          | true => exact absurd ⟨i, hi, h3, h4⟩ hn
      obtain ⟨q, q1, q2, q3⟩ := h
      have := sp_congr he q q1
      rw [show v.sp (v.ball p t) q = v.ball p (t + 1) q from rfl, show v.sp (v.ball p (t + 1)) q = v.ball p (t + 1 + 1) q from rfl, q2, q3] at this
      cases this
    have := ih h2
    omega
theorem ball_8 (W : WF v) {p q : Nat} (hp : p < v.n) (hq : q < v.n) (h : v.ball p 9 q = true) : v.ball p 8 q = true := by
  cases h8 : v.ball p 8 q with
  | true => rfl
  | false =>
    have h1 : 9 < cnt (v.ball p 9) v.n := ball_grow hp 8 ⟨q, hq, h8, h⟩
    have h2 := cnt_le (f := v.ball p 9) v.n
    have := W.n9
    omega
theorem far_none (W : WF v) {p q : Nat} (hp : p < v.n) (hq : q < v.n) : v.far p q = none ↔ ∀ t, t ≤ 9 → v.ball p t q = false := by
  constructor
  · intro h t ht
    cases hb : v.ball p t q with
    | false => rfl
    | true =>
      have h8 : v.ball p 8 q = true := by
        by_cases e : t = 9
        · subst e; exact ball_8 W hp hq hb
        · exact ball_le (by omega) hb
      have : ∃ s, s < 9 ∧ v.ball p s q = true ∧ ∀ x, x < s → v.ball p x q = false := by
        have key : ∀ m, v.ball p m q = true → ∃ s, s ≤ m ∧ v.ball p s q = true ∧ ∀ x, x < s → v.ball p x q = false := by
          intro m
          induction m with
          | zero => intro hm; exact ⟨0, Nat.le_refl _, hm, fun x hx => absurd hx (by omega)⟩
          | succ m ih =>
            intro hm
            cases hc : v.ball p m q with
            | true => obtain ⟨s, s1, s2, s3⟩ := ih hc; exact ⟨s, by omega, s2, s3⟩
            | false => exact ⟨m + 1, Nat.le_refl _, hm, fun x hx => by
                cases hx2 : v.ball p x q with
                | false => rfl
                | true => rw [ball_le (show x ≤ m by omega) hx2] at hc; cases hc⟩
        obtain ⟨s, s1, s2, s3⟩ := key 8 h8
        exact ⟨s, by omega, s2, s3⟩
      obtain ⟨s, hs⟩ := this
      rw [far_some.mpr hs] at h
      cases h
  · intro h
    cases hf : v.far p q with
    | none => rfl
    | some s =>
      obtain ⟨h1, h2, -⟩ := far_some.mp hf
      rw [h s (by omega)] at h2
      cases h2
end BALL2

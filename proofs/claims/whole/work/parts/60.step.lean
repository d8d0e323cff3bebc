/-! the lowest of some -/
def lowL (f : Nat → Bool) : Nat → Nat → Option Nat
  | _, 0 => none
  | i, m + 1 => if f i = true then some i else lowL f (i + 1) m
theorem lowL_some {f : Nat → Bool} : ∀ (m i j : Nat), lowL f i m = some j ↔ i ≤ j ∧ j < i + m ∧ f j = true ∧ ∀ x, i ≤ x → x < j → f x = false := by
  intro m
  induction m with
  | zero =>
    intro i j
    simp only [lowL]
    constructor
    · intro h; cases h
    · rintro ⟨h1, h2, -⟩; omega
  | succ m ih =>
    intro i j
    unfold lowL
    by_cases h : f i = true
    · rw [if_pos h]
      constructor
      · intro e; cases e; exact ⟨Nat.le_refl _, by omega, h, fun x h1 h2 => absurd h2 (by omega)⟩
      · rintro ⟨h1, h2, h3, h4⟩
        by_cases e : j = i
        · rw [e]
        · have := h4 i (Nat.le_refl _) (by omega); rw [h] at this; cases this
    · rw [if_neg h, ih (i + 1) j]
      constructor
      · rintro ⟨h1, h2, h3, h4⟩
        refine ⟨by omega, by omega, h3, fun x x1 x2 => ?_⟩
        by_cases e : x = i
        · rw [e]; simpa using h
        · exact h4 x (by omega) x2
      · rintro ⟨h1, h2, h3, h4⟩
        have : j ≠ i := fun e => h (by rw [← e]; exact h3)
        exact ⟨by omega, by omega, h3, fun x x1 x2 => h4 x (by omega) x2⟩
theorem e_lowest {σ : Mem} {f : Nat → Bool} {n : Nat} (hn : n ≤ 31) : X11_lowest σ (mkB f n) = some (oI (lowL (fun j => decide (j < n) && f j) 0 9)) := by
  have key : ∀ (m i fuel : Nat), i + m = 9 → m < fuel → X11_lowest_2 σ fuel (mkB f n) (nI i) = some (oI (lowL (fun j => decide (j < n) && f j) i m)) := by
    intro m
    induction m with
    | zero =>
      intro i fuel hi hf
      obtain ⟨fuel, rfl⟩ : ∃ z, fuel = z + 1 := ⟨fuel - 1, by omega⟩
      rw [X11_lowest_2, if_pos (show (9 : Int32) ≤ nI i from nI_le (a := 9) (by omega) (by omega))]
      rfl
    | succ m ih =>
      intro i fuel hi hf
      obtain ⟨fuel, rfl⟩ : ∃ z, fuel = z + 1 := ⟨fuel - 1, by omega⟩
      rw [X11_lowest_2, if_neg (show ¬ (9 : Int32) ≤ nI i from nI_ge (b := 9) (by omega) (by omega)), e_hasBit, hb_mk hn (by omega), bd_s, lowL]
      by_cases h : (decide (i < n) && f i) = true
      · rw [if_neg (by rw [b2i_0, h]; decide), if_pos h]; rfl
      · rw [if_pos (by rw [b2i_0]; simpa using h), if_neg h, ← nI_succ]
        exact ih (i + 1) fuel (by omega) (by omega)
  exact key 9 0 FU rfl (by decide)
/-- where a step leads -/
noncomputable def View.stepTo (v : View) (p to : Nat) : Nat := match v.far p to with
  | some (s + 1) => (lowL (fun q => v.way p q && decide (v.far q to = some s)) 0 v.n).getD p
  | _ => p
section STEP
variable {σ : Mem} {B : Nat} {v : View} {e : Nat}
theorem far_succ (W : WF v) {p to t : Nat} (hp : p < v.n) (hto : to < v.n) (h1 : v.ball to (t + 1) p = true) (h2 : v.ball to t p = false) (ht : t < 9) : v.far p to = some (t + 1) := by
  have h8 : t + 1 < 9 := by
    apply Classical.byContradiction
    intro hn
    have : t = 8 := by omega
    subst this
    rw [ball_8 W hto hp h1] at h2
    cases h2
  refine far_some.mpr ⟨h8, (ball_sym W _ _ _ hto hp).mp h1, fun x hx => ?_⟩
  cases hb : v.ball p x to with
  | false => rfl
  | true => rw [ball_le (show x ≤ t by omega) ((ball_sym W _ _ _ hp hto).mp hb)] at h2; cases h2
theorem near_far (W : WF v) {p to t q : Nat} (hp : p < v.n) (hto : to < v.n) (hq : q < v.n) (hf : v.far p to = some (t + 1)) (hw : v.way p q = true) : v.ball to t q = true ↔ v.far q to = some t := by
  obtain ⟨f1, f2, f3⟩ := far_some.mp hf
  constructor
  · intro h
    refine far_some.mpr ⟨by omega, (ball_sym W _ _ _ hto hq).mp h, fun x hx => ?_⟩
    cases hb : v.ball q x to with
    | false => rfl
    | true =>
      have := (ball_left hp x to hto).mpr (Or.inr ⟨q, hq, hw, hb⟩)
      rw [f3 (x + 1) (by omega)] at this
      cases this
  · intro h
    obtain ⟨-, g2, -⟩ := far_some.mp h
    exact (ball_sym W _ _ _ hq hto).mp g2
theorem e_stepTo (hB : kd B = 2) (W : WF v) (R : SC σ B v e) {p to : Nat} (hp : p < v.n) (hto : to < v.n) : X7_stepTo σ B (nI p) (nI to) = some (nI (v.stepTo p to)) := by
  have h9 := W.n9
  unfold X7_stepTo
  rw [e_bit, bd_s, e_hasBit, hb_bit (by omega) (by omega), bd_s]
  by_cases hpt : p = to
  · subst hpt
    rw [if_neg (by rw [b2i_0]; simp)]
    have : v.far p p = some 0 := far_some.mpr ⟨by omega, by show decide (p = p) = true; simp, fun x hx => absurd hx (by omega)⟩
    unfold View.stepTo
    rw [this]
  · rw [if_pos (by rw [b2i_0]; simpa using hpt), mk_bit (n := v.n) (by omega) hto]
    have key : ∀ (m t fuel : Nat), t + m = 9 → m < fuel → v.ball to t p = false → X7_stepTo_18 σ fuel B (nI p) (mkB (v.ball to t) v.n) (nI t) = some (nI (v.stepTo p to)) := by
      intro m
      induction m with
      | zero =>
        intro t fuel ht hf hb
        obtain ⟨fuel, rfl⟩ : ∃ z, fuel = z + 1 := ⟨fuel - 1, by omega⟩
        rw [X7_stepTo_18, if_pos (show (9 : Int32) ≤ nI t from nI_le (a := 9) (by omega) (by omega))]
        have hn : v.far p to = none := (far_none W hp hto).mpr fun x hx => by
          cases hb2 : v.ball p x to with
          | false => rfl
          | true => rw [ball_le (show x ≤ t by omega) ((ball_sym W _ _ _ hp hto).mp hb2)] at hb; cases hb
        unfold View.stepTo
        rw [hn]
      | succ m ih =>
        intro t fuel ht hf hb
        obtain ⟨fuel, rfl⟩ : ∃ z, fuel = z + 1 := ⟨fuel - 1, by omega⟩
        rw [X7_stepTo_18, if_neg (show ¬ (9 : Int32) ≤ nI t from nI_ge (b := 9) (by omega) (by omega)), e_around hB W R, bd_s, mk_or (by omega)]
        show (bd (X11_hasBit σ (mkB (v.ball to (t + 1)) v.n) (nI p)) fun r37 => if r37 = 0 then X7_stepTo_18 σ fuel B (nI p) (mkB (v.ball to (t + 1)) v.n) (nI t + 1) else bd (X6_get σ (B + 7) (nI p)) fun r49 => bd (X11_lowest σ (mkB (v.ball to t) v.n &&& r49)) fun r53 => some r53) = _
        rw [e_hasBit, hb_mk (by omega) (by omega), bd_s, decide_eq_true hp, Bool.true_and]
        cases hc : v.ball to (t + 1) p with
        | false =>
          rw [if_pos (show b2i false = 0 from rfl), ← nI_succ]
          exact ih (t + 1) fuel (by omega) (by omega) hc
        | true =>
          rw [if_neg (show ¬ b2i true = 0 by decide), g_way hB W R hp, bd_s, mk_and (by omega), e_lowest (by omega), bd_s]
          have hfar := far_succ W hp hto hc hb (by omega)
          unfold View.stepTo
          rw [hfar]
          obtain ⟨r, r1, r2, r3⟩ : ∃ r, r < v.n ∧ v.ball to t r = true ∧ v.way r p = true := by
            rcases sp_iff.mp hc with h | h
            · rw [hb] at h; cases h
            · exact h
          cases hl : lowL (fun j => decide (j < v.n) && (v.ball to t j && v.way p j)) 0 9 with
          | none =>
            exfalso
            have hnone : ∀ (m i : Nat) (f : Nat → Bool), lowL f i m = none → ∀ x, i ≤ x → x < i + m → f x = false := by
              intro m
              induction m with
              | zero => intro i f _ x h1 h2; omega
              | succ m ih2 =>
                intro i f h x h1 h2
                unfold lowL at h
                by_cases hi : f i = true
                · rw [if_pos hi] at h; cases h
                · rw [if_neg hi] at h
                  by_cases e : x = i
                  · rw [e]; simpa using hi
                  · exact ih2 (i + 1) f h x (by omega) (by omega)
            have := hnone 9 0 _ hl r (by omega) (by omega)
            rw [r2, W.sym p r hp r1, r3, decide_eq_true r1] at this
            cases this
          | some j =>
            obtain ⟨-, j2, j3, j4⟩ := (lowL_some 9 0 j).mp hl
            simp only [Bool.and_eq_true, decide_eq_true_eq] at j3
            have hl2 : lowL (fun q => v.way p q && decide (v.far q to = some t)) 0 v.n = some j := (lowL_some _ _ _).mpr ⟨by omega, by omega, by rw [j3.2.2, decide_eq_true ((near_far W hp hto j3.1 hfar j3.2.2).mp j3.2.1)]; rfl, fun x x1 x2 => by
              have h5 := j4 x x1 x2
              rw [decide_eq_true (show x < v.n by omega), Bool.true_and] at h5
              cases hw : v.way p x with
              | false => rfl
              | true =>
                rw [hw, Bool.and_true] at h5
                rw [Bool.true_and]
                apply decide_eq_false
                intro z
                rw [(near_far W hp hto (by omega) hfar hw).mpr z] at h5
                cases h5⟩
            show some (oI (some j)) = some (nI ((lowL (fun q => v.way p q && decide (v.far q to = some t)) 0 v.n).getD p))
            rw [hl2]
            rfl
    exact key 9 0 FU rfl (by decide) (by show decide (p = to) = false; simpa using hpt)
end STEP

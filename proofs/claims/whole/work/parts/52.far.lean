/-! ways: all panes about some, and how far -/
def anyR (P : Nat → Bool) : Nat → Nat → Bool
  | _, 0 => false
  | i, m + 1 => P i || anyR P (i + 1) m
theorem anyR_iff {P : Nat → Bool} : ∀ {m i : Nat}, anyR P i m = true ↔ ∃ p, i ≤ p ∧ p < i + m ∧ P p = true := by
  intro m
  induction m with
  | zero => intro i; simp only [anyR, Bool.false_eq_true, false_iff]; rintro ⟨p, h1, h2, -⟩; omega
  | succ m ih =>
    intro i
    simp only [anyR, Bool.or_eq_true, ih]
    constructor
    · rintro (h | ⟨p, h1, h2, h3⟩)
      · exact ⟨i, by omega, by omega, h⟩
      · exact ⟨p, by omega, by omega, h3⟩
    · rintro ⟨p, h1, h2, h3⟩
      by_cases e : p = i
      · subst e; exact Or.inl h3
      · exact Or.inr ⟨p, by omega, by omega, h3⟩
/-- the panes to which a way goes from one of these -/
noncomputable def View.ar (v : View) (f : Nat → Bool) : Nat → Bool := fun q => anyR (fun p => f p && v.way p q) 0 v.n
noncomputable def View.sp (v : View) (f : Nat → Bool) : Nat → Bool := fun q => f q || v.ar f q
/-- the panes that are reached in so many steps -/
noncomputable def View.ball (v : View) (p : Nat) : Nat → Nat → Bool
  | 0 => fun q => decide (q = p)
  | t + 1 => v.sp (v.ball p t)
noncomputable def View.farL (v : View) (p q : Nat) : Nat → Nat → Option Nat
  | _, 0 => none
  | t, m + 1 => if v.ball p t q = true then some t else v.farL p q (t + 1) m
noncomputable def View.far (v : View) (p q : Nat) : Option Nat := v.farL p q 0 9
section FAR
variable {σ : Mem} {B : Nat} {v : View} {e : Nat}
theorem e_around_l (hB : kd B = 2) (W : WF v) (R : SC σ B v e) {f : Nat → Bool} : ∀ (m i fuel : Nat) (acc : Nat → Bool), i + m = v.n → m < fuel → X7_around_4 σ fuel B (mkB f v.n) (mkB acc v.n) (nI i) = some (mkB (fun q => acc q || anyR (fun p => f p && v.way p q) i m) v.n) := by
  have h9 := W.n9
  intro m
  induction m with
  | zero =>
    intro i fuel acc hi hf
    obtain ⟨fuel, rfl⟩ : ∃ z, fuel = z + 1 := ⟨fuel - 1, by omega⟩
    rw [X7_around_4, R.n, if_pos (nI_le (by omega) (by omega))]
    simp [anyR]
  | succ m ih =>
    intro i fuel acc hi hf
    obtain ⟨fuel, rfl⟩ : ∃ z, fuel = z + 1 := ⟨fuel - 1, by omega⟩
    rw [X7_around_4, R.n, if_neg (nI_ge (by omega) (by omega)), e_hasBit, hb_mk (by omega) (by omega), bd_s, decide_eq_true (show i < v.n by omega), Bool.true_and, ← nI_succ]
    by_cases h : f i = true
    · rw [if_neg (by rw [b2i_0, h]; decide), g_way hB W R (by omega), bd_s, mk_or (by omega), ih (i + 1) fuel _ (by omega) (by omega)]
      congr 2
      funext q
      simp [anyR, h, Bool.or_assoc]
    · rw [Bool.not_eq_true] at h
      rw [if_pos (by rw [b2i_0, h]), ih (i + 1) fuel _ (by omega) (by omega)]
      congr 2
      funext q
      simp [anyR, h]
theorem e_around (hB : kd B = 2) (W : WF v) (R : SC σ B v e) {f : Nat → Bool} : X7_around σ B (mkB f v.n) = some (mkB (v.ar f) v.n) := by
  have h9 := W.n9
  unfold X7_around
  rw [show (0 : Int32) = nI 0 from rfl, show (nI 0 : Int32) = mkB (fun _ => false) v.n from (mk_0 (n := v.n) (by omega))]
  rw [show mkB (fun _ => false) v.n = nI 0 from (mk_0 (n := v.n) (by omega)).symm]
  have := e_around_l hB W R (f := f) v.n 0 FU (fun _ => false) (by omega) (by show v.n < 100000; omega)
  rw [← mk_0 (n := v.n) (by omega)] at this
  rw [show (nI 0 : Int32) = 0 from rfl] at this ⊢
  rw [this]
  simp only [Bool.false_or]
  rfl
theorem e_far_l (hB : kd B = 2) (W : WF v) (R : SC σ B v e) {p q : Nat} (hq : q < v.n) : ∀ (m t fuel : Nat), t + m = 9 → m < fuel → X7_farOf_8 σ fuel B (nI q) (mkB (v.ball p t) v.n) (nI t) = some (oI (v.farL p q t m)) := by
  have h9 := W.n9
  intro m
  induction m with
  | zero =>
    intro t fuel ht hf
    obtain ⟨fuel, rfl⟩ : ∃ z, fuel = z + 1 := ⟨fuel - 1, by omega⟩
    rw [X7_farOf_8, if_pos (show (9 : Int32) ≤ nI t from nI_le (a := 9) (by omega) (by omega))]
    rfl
  | succ m ih =>
    intro t fuel ht hf
    obtain ⟨fuel, rfl⟩ : ∃ z, fuel = z + 1 := ⟨fuel - 1, by omega⟩
    rw [X7_farOf_8, if_neg (show ¬ (9 : Int32) ≤ nI t from nI_ge (b := 9) (by omega) (by omega)), e_hasBit, hb_mk (by omega) (by omega), bd_s, decide_eq_true hq, Bool.true_and, View.farL]
    by_cases h : v.ball p t q = true
    · rw [if_neg (by rw [b2i_0, h]; decide), if_pos h]; rfl
    · rw [if_pos (by rw [b2i_0]; simpa using h), if_neg h, e_around hB W R, bd_s, mk_or (by omega), ← nI_succ]
      exact ih (t + 1) fuel (by omega) (by omega)
theorem e_far (hB : kd B = 2) (W : WF v) (R : SC σ B v e) {p q : Nat} (hp : p < v.n) (hq : q < v.n) : X7_farOf σ B (nI p) (nI q) = some (oI (v.far p q)) := by
  have h9 := W.n9
  unfold X7_farOf
  rw [e_bit, bd_s, mk_bit (n := v.n) (by omega) hp]
  exact e_far_l hB W R hq 9 0 FU rfl (by decide)
end FAR
section FARM
variable {σ : Mem} {v : View}
theorem nI_mul (a b : Nat) : nI a * nI b = nI (a * b) := (Int32.ofNat_mul a b).symm
theorem ln4 : ln 400 = 888 := by decide +kernel
theorem m_at {i : Nat} (h : i < 888) : ag σ 400 (nI i) = some (σ 400 i) := ag_nI (by rw [ln4]; exact h) (by omega)
theorem m_set {i : Nat} {x : Int32} (h : i < 888) : au σ 400 (nI i) x = some (st σ 400 i x) := au_nI (by rw [ln4]; exact h) (by omega)
theorem m_isWay (W : WF v) (M : SM (σ 400) v) {p q : Nat} (hp : p < v.n) (hq : q < v.n) : X12_isWay σ (nI p) (nI q) = some (b2i (v.way p q)) := by
  have h9 := W.n9
  unfold X12_isWay
  have e : ((47 : Int32) + ((9 : Int32) * nI p)) + nI q = nI (47 + 9 * p + q) := by
    rw [show (47 : Int32) = nI 47 from rfl, show (9 : Int32) = nI 9 from rfl, nI_mul, nI_add, nI_add]
  rw [e, m_at (by omega), bd_s, M.way p q hp hq]
  cases v.way p q <;> rfl
theorem m_nextTo_in (W : WF v) (M : SM (σ 400) v) {f : Nat → Bool} {rc : Int32 → Int32 → Int32 → Option Int32} {p : Nat} (hp : p < v.n) : ∀ (m j fuel : Nat) (acc : Nat → Bool), j + m = v.n → m < fuel → X12_nextTo_17 σ rc fuel (mkB f v.n) (mkB acc v.n) (nI p) (nI j) = rc (mkB f v.n) (mkB (fun r => acc r || (decide (j ≤ r) && (f p && v.way p r))) v.n) (nI (p + 1)) := by
  have h9 := W.n9
  intro m
  induction m with
  | zero =>
    intro j fuel acc hj hf
    obtain ⟨fuel, rfl⟩ : ∃ z, fuel = z + 1 := ⟨fuel - 1, by omega⟩
    rw [X12_nextTo_17, show (3 : Int32) = nI 3 from rfl, m_at (by omega), bd_s, M.n, if_pos (nI_le (by omega) (by omega)), ← nI_succ]
    congr 1
    apply mk_congr
    intro r hr
    simp [show ¬ j ≤ r by omega]
  | succ m ih =>
    intro j fuel acc hj hf
    obtain ⟨fuel, rfl⟩ : ∃ z, fuel = z + 1 := ⟨fuel - 1, by omega⟩
    rw [X12_nextTo_17, show (3 : Int32) = nI 3 from rfl, m_at (by omega), bd_s, M.n, if_neg (nI_ge (by omega) (by omega)), e_isOf, hb_mk (by omega) (by omega), bd_s, decide_eq_true hp, Bool.true_and]
    by_cases h : f p = true
    · rw [if_neg (by rw [b2i_0, h]; decide), m_isWay W M hp (by omega), bd_s]
      by_cases h2 : v.way p j = true
      · rw [if_neg (by rw [b2i_0, h2]; decide), show ((1 : Int32) <<< (nI j &&& 31)) = bitv j from rfl, mk_bit (n := v.n) (by omega) (by omega), mk_or (by omega), ← nI_succ, ih (j + 1) fuel _ (by omega) (by omega)]
        congr 1
        apply mk_congr
        intro r hr
        by_cases e : r = j
        · subst e; simp [h, h2]
        · simp [e, show (j + 1 ≤ r) ↔ (j ≤ r) by omega]
      · rw [if_pos (by rw [b2i_0]; simpa using h2), ← nI_succ, ih (j + 1) fuel _ (by omega) (by omega)]
        congr 1
        apply mk_congr
        intro r hr
        by_cases e : r = j
        · subst e; simp [h2]
        · simp [show (j + 1 ≤ r) ↔ (j ≤ r) by omega]
    · rw [if_pos (by rw [b2i_0]; simpa using h), ← nI_succ, ih (j + 1) fuel _ (by omega) (by omega)]
      congr 1
      apply mk_congr
      intro r hr
      simp [h]
theorem m_nextTo_out (W : WF v) (M : SM (σ 400) v) {f : Nat → Bool} : ∀ (m i fuel : Nat) (acc : Nat → Bool), i + m = v.n → m < fuel → X12_nextTo_4 σ fuel (mkB f v.n) (mkB acc v.n) (nI i) = some (mkB (fun q => acc q || anyR (fun p => f p && v.way p q) i m) v.n) := by
  have h9 := W.n9
  intro m
  induction m with
  | zero =>
    intro i fuel acc hi hf
    obtain ⟨fuel, rfl⟩ : ∃ z, fuel = z + 1 := ⟨fuel - 1, by omega⟩
    rw [X12_nextTo_4, show (3 : Int32) = nI 3 from rfl, m_at (by omega), bd_s, M.n, if_pos (nI_le (by omega) (by omega))]
    simp [anyR]
  | succ m ih =>
    intro i fuel acc hi hf
    obtain ⟨fuel, rfl⟩ : ∃ z, fuel = z + 1 := ⟨fuel - 1, by omega⟩
    rw [X12_nextTo_4, show (3 : Int32) = nI 3 from rfl, m_at (by omega), bd_s, M.n, if_neg (nI_ge (by omega) (by omega)), show (0 : Int32) = nI 0 from rfl]
    rw [m_nextTo_in W M (p := i) (by omega) v.n 0 FU acc (by omega) (by show v.n < 100000; omega), ih (i + 1) fuel _ (by omega) (by omega)]
    congr 2
    funext q
    simp [anyR, Bool.or_assoc]
theorem m_nextTo (W : WF v) (M : SM (σ 400) v) {f : Nat → Bool} : X12_nextTo σ (mkB f v.n) = some (mkB (v.ar f) v.n) := by
  have h9 := W.n9
  have := m_nextTo_out W M (f := f) v.n 0 FU (fun _ => false) (by omega) (by show v.n < 100000; omega)
  rw [← mk_0 (n := v.n) (by omega)] at this
  unfold X12_nextTo
  rw [show (nI 0 : Int32) = 0 from rfl] at this
  rw [this]
  simp only [Bool.false_or]
  rfl
theorem m_far_l (W : WF v) (M : SM (σ 400) v) {p q : Nat} (hq : q < v.n) : ∀ (m t fuel : Nat), t + m = 9 → m < fuel → X12_farOf_7 σ fuel (nI q) (mkB (v.ball p t) v.n) (nI t) = some (oI (v.farL p q t m)) := by
  have h9 := W.n9
  intro m
  induction m with
  | zero =>
    intro t fuel ht hf
    obtain ⟨fuel, rfl⟩ : ∃ z, fuel = z + 1 := ⟨fuel - 1, by omega⟩
    rw [X12_farOf_7, if_pos (show (9 : Int32) ≤ nI t from nI_le (a := 9) (by omega) (by omega))]
    rfl
  | succ m ih =>
    intro t fuel ht hf
    obtain ⟨fuel, rfl⟩ : ∃ z, fuel = z + 1 := ⟨fuel - 1, by omega⟩
    rw [X12_farOf_7, if_neg (show ¬ (9 : Int32) ≤ nI t from nI_ge (b := 9) (by omega) (by omega)), e_isOf, hb_mk (by omega) (by omega), bd_s, decide_eq_true hq, Bool.true_and, View.farL]
    by_cases h : v.ball p t q = true
    · rw [if_neg (by rw [b2i_0, h]; decide), if_pos h]; rfl
    · rw [if_pos (by rw [b2i_0]; simpa using h), if_neg h, m_nextTo W M, bd_s, mk_or (by omega), ← nI_succ]
      exact ih (t + 1) fuel (by omega) (by omega)
theorem m_far (W : WF v) (M : SM (σ 400) v) {p q : Nat} (hp : p < v.n) (hq : q < v.n) : X12_farOf σ (nI p) (nI q) = some (oI (v.far p q)) := by
  have h9 := W.n9
  unfold X12_farOf
  rw [show ((1 : Int32) <<< (nI p &&& 31)) = bitv p from rfl, mk_bit (n := v.n) (by omega) hp]
  exact m_far_l W M hq 9 0 FU rfl (by decide)
end FARM

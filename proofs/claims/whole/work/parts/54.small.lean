/-! small questions, both sides -/
theorem gb_b {b : Bool} : gb (b2i b) = some () := by cases b <;> rfl
theorem nI_m1 {w : Nat} (h : w < 2 ^ 31) : nI w ≠ -1 := fun e => nI_pos h (by rw [e]; decide)
theorem oI_m1 {x : Option Nat} (h : ∀ w, x = some w → w < 2 ^ 31) : oI x = -1 ↔ x = none := by
  cases x with
  | none => exact ⟨fun _ => rfl, fun _ => rfl⟩
  | some w => exact ⟨fun e => absurd e (nI_m1 (h w rfl)), fun e => nomatch e⟩
theorem nI_inj {a b : Nat} (ha : a < 2 ^ 31) (hb : b < 2 ^ 31) (h : nI a = nI b) : a = b := by
  have := congrArg Int32.toInt h
  rw [nI_toInt ha, nI_toInt hb] at this
  omega
theorem nI_leq {a b : Nat} (ha : a < 2 ^ 31) (hb : b < 2 ^ 31) : nI a ≤ nI b ↔ a ≤ b := ⟨fun h => Nat.le_of_not_lt fun q => nI_ge q ha h, fun h => nI_le h hb⟩
theorem nI_ltq {a b : Nat} (ha : a < 2 ^ 31) (hb : b < 2 ^ 31) : nI a < nI b ↔ a < b := ⟨fun h => Nat.lt_of_not_le fun q => nI_nlt q ha h, fun h => nI_lt h hb⟩
theorem nI_subN {a b : Nat} (h : b ≤ a) : nI a - nI b = nI (a - b) := by
  have h3 := nI_add (a - b) b
  rw [show a - b + b = a by omega] at h3
  rw [← h3]
  exact Int32.add_sub_cancel _ _
/-- what a walker likes the owner of a pane, five without one -/
noncomputable def View.lo (v : View) (w p : Nat) : Nat := match v.own p with
  | none => 5
  | some o => v.like w o
section SMALL
variable {σ : Mem} {B : Nat} {v : View} {e : Nat}
theorem WF.own31 (W : WF v) {p : Nat} (hp : p < v.n) : ∀ w, v.own p = some w → w < 2 ^ 31 := fun w h => by
  have := W.own p w hp h; have := W.k6; omega
theorem WF.hd31 (W : WF v) {w : Nat} (hw : w < v.k) : ∀ p, v.hd w = some p → p < 2 ^ 31 := fun p h => by
  have := W.hd w p hw h; have := W.n9; omega
theorem e_isBurning (W : WF v) (R : SC σ B v e) {p : Nat} (hp : p < v.n) : X7_isBurning σ B (nI p) = some (b2i (v.burn p)) := by
  have := W.n9
  unfold X7_isBurning
  rw [R.burn, e_hasBit, hb_mk (by omega) (by omega), bd_s, decide_eq_true hp, Bool.true_and, gb_b, bd_s]
theorem e_hasWay (hB : kd B = 2) (W : WF v) (R : SC σ B v e) {p q : Nat} (hp : p < v.n) (hq : q < v.n) : X7_hasWay σ B (nI p) (nI q) = some (b2i (v.way p q)) := by
  have := W.n9
  unfold X7_hasWay
  rw [g_way hB W R hp, bd_s, e_hasBit, hb_mk (by omega) (by omega), bd_s, decide_eq_true hq, Bool.true_and, gb_b, bd_s]
theorem ix6 (w o : Nat) : nI w * 6 + nI o = nI (6 * w + o) := by
  rw [show (6 : Int32) = nI 6 from rfl, nI_mul, nI_add, Nat.mul_comm]
theorem e_likesOf (hB : kd B = 2) (W : WF v) (R : SC σ B v e) {w o : Nat} (hw : w < v.k) (ho : o < v.k) (hn : w ≠ o) : X7_likesOf σ B (nI w) (nI o) = some (nI (v.like w o)) := by
  have := W.k6
  unfold X7_likesOf
  have hl : ln (B + 17 + 1) = 36 := (ln_str hB).2.2.2.2.2.2.2.2.1
  rw [ix6, e_get (by rw [hl]; omega) (by rw [hl]; decide), bd_s, R.like w o hw ho hn]
theorem e_setLikes (hB : kd B = 2) (W : WF v) {w o : Nat} (hw : w < v.k) (ho : o < v.k) {x : Int32} : X7_setLikes B (nI w) (nI o) x σ = some (st σ (B + 18) (6 * w + o) x) := by
  have := W.k6
  unfold X7_setLikes
  have hl : ln (B + 17 + 1) = 36 := (ln_str hB).2.2.2.2.2.2.2.2.1
  rw [ix6, e_set (by rw [hl]; omega) (by rw [hl]; decide), bd_s]
theorem e_likesFor (hB : kd B = 2) (W : WF v) (R : SC σ B v e) {w p : Nat} (hw : w < v.k) (hp : p < v.n) : X7_likesFor σ B (nI w) (nI p) = some (nI (v.lo w p)) := by
  have h6 := W.k6
  unfold X7_likesFor View.lo
  rw [g_own hB W R hp, bd_s]
  cases ho : v.own p with
  | none => rfl
  | some o =>
    have h1 := W.own p o hp ho
    rw [if_neg (show ¬ oI (some o) = -1 from nI_m1 (by omega))]
    by_cases h : o = w
    · subst h
      rw [if_pos (show oI (some o) = nI o from rfl)]
      show _ = some (nI (v.like o o))
      rw [W.self o hw]; rfl
    · rw [show oI (some o) = nI o from rfl, if_neg (fun z => h (nI_inj (by omega) (by omega) z)), e_likesOf hB W R hw h1 (fun z => h z.symm), bd_s]
theorem e_mayStrike (hB : kd B = 2) (W : WF v) (R : SC σ B v e) {w p : Nat} (hw : w < v.k) (hp : p < v.n) : X7_mayStrike σ B (nI w) (nI p) = some (b2i (decide (0 < v.tp w) && (!v.burn p && (decide (0 < v.oil p) && decide (v.own p ≠ some w))))) := by
  have h6 := W.k6
  have h9 := W.n9
  have ht := W.tp w hw
  have ho := W.oil p hp
  unfold X7_mayStrike
  rw [g_tp hB W R hw, bd_s]
  by_cases c1 : 0 < v.tp w
  · rw [if_neg (nI_nle c1 (by omega)), e_isBurning W R hp, bd_s]
    cases hb : v.burn p with
    | true => simp [b2i]; rfl
    | false =>
      rw [if_pos (show b2i false = 0 from rfl), g_oil hB W R hp, bd_s]
      by_cases c2 : 0 < v.oil p
      · rw [if_neg (nI_nle c2 (by omega)), g_own hB W R hp, bd_s]
        by_cases c3 : v.own p = some w
        · rw [if_pos (by rw [c3]; rfl)]; simp [c3, b2i]; rfl
        · rw [if_neg (by
            intro z
            cases hq : v.own p with
            | none => rw [hq] at z; exact nI_m1 (by omega) z.symm
            | some o =>
              rw [hq] at z
              have := W.own p o hp hq
              exact c3 (by rw [hq, nI_inj (by omega) (by omega) z]))]
          simp [c1, c2, c3, b2i]; rfl
      · rw [if_pos (by rw [show v.oil p = 0 by omega]; decide)]; simp [c2, b2i]; rfl
  · rw [if_pos (by rw [show v.tp w = 0 by omega]; decide)]; simp [c1, b2i]; rfl
/-! the reference -/
theorem ix4 (b w k : Nat) : (nI b + (4 : Int32) * nI w) + nI k = nI (b + 4 * w + k) := by
  rw [show (4 : Int32) = nI 4 from rfl, nI_mul, nI_add, nI_add]
theorem m_of (W : WF v) {p k : Nat} (hp : p < v.n) (hk : k < 4) : X12_of σ (nI p) (nI k) = some (σ 400 (11 + 4 * p + k)) := by
  have h9 := W.n9
  unfold X12_of
  rw [show (11 : Int32) = nI 11 from rfl, ix4, m_at (by omega), bd_s]
theorem m_lays (W : WF v) {p k : Nat} (hp : p < v.n) (hk : k < 4) {x : Int32} : X12_lays (nI p) (nI k) x σ = some (st σ 400 (11 + 4 * p + k) x) := by
  have h9 := W.n9
  unfold X12_lays
  rw [show (11 : Int32) = nI 11 from rfl, ix4, m_set (by omega), bd_s]
theorem m_ofWalker (W : WF v) {w k : Nat} (hw : w < v.k) (hk : k < 4) : X12_ofWalker σ (nI w) (nI k) = some (σ 400 (128 + 4 * w + k)) := by
  have h9 := W.k6
  unfold X12_ofWalker
  rw [show (128 : Int32) = nI 128 from rfl, ix4, m_at (by omega), bd_s]
theorem m_liking (W : WF v) (M : SM (σ 400) v) {w o : Nat} (hw : w < v.k) (ho : o < v.k) : X12_liking σ (nI w) (nI o) = some (nI (v.like w o)) := by
  have h9 := W.k6
  unfold X12_liking
  rw [show (152 : Int32) = nI 152 from rfl, show (6 : Int32) = nI 6 from rfl, nI_mul, nI_add, nI_add, m_at (by omega), bd_s, M.like w o hw ho]
theorem m_likesOwner (W : WF v) (M : SM (σ 400) v) {w p : Nat} (hw : w < v.k) (hp : p < v.n) : X12_likesOwner σ (nI w) (nI p) = some (nI (v.lo w p)) := by
  have h6 := W.k6
  unfold X12_likesOwner View.lo
  rw [show (2 : Int32) = nI 2 from rfl, m_of W hp (by omega), bd_s, M.own p hp]
  cases ho : v.own p with
  | none => rfl
  | some o =>
    have h1 := W.own p o hp ho
    rw [if_neg (show ¬ oI (some o) = -1 from nI_m1 (by omega)), show oI (some o) = nI o from rfl, m_liking W M hw h1, bd_s]
theorem m_lesser {a b : Nat} (ha : a < 2 ^ 31) (hb : b < 2 ^ 31) : X12_lesser σ (nI a) (nI b) = some (nI (min a b)) := by
  unfold X12_lesser
  by_cases h : b ≤ a
  · rw [if_pos (nI_le h ha), Nat.min_eq_right h]
  · rw [if_neg (nI_ge (by omega) hb), Nat.min_eq_left (by omega)]
theorem m_greater {a b : Nat} (ha : a < 2 ^ 31) (hb : b < 2 ^ 31) : X12_greater σ (nI a) (nI b) = some (nI (max a b)) := by
  unfold X12_greater
  by_cases h : a ≤ b
  · rw [if_pos (nI_le h hb), Nat.max_eq_right h]
  · rw [if_neg (nI_ge (by omega) ha), Nat.max_eq_left (by omega)]
theorem m_isIn {x lo hi : Int32} : X12_isIn σ x lo hi = some (b2i (decide (lo ≤ x) && decide (x ≤ hi))) := by
  unfold X12_isIn
  by_cases h1 : x < lo
  · rw [if_pos h1, decide_eq_false (Int32.not_le.mpr h1)]; rfl
  · rw [if_neg h1, decide_eq_true (Int32.not_lt.mp h1)]
    by_cases h2 : hi < x
    · rw [if_pos h2, decide_eq_false (Int32.not_le.mpr h2)]; rfl
    · rw [if_neg h2, decide_eq_true (Int32.not_lt.mp h2)]; rfl
end SMALL

/-! walks that still stand -/
def pt {α : Type} (f : Nat → α) (y : Nat) (z : α) : Nat → α := fun q => if q = y then z else f q
theorem pt_at {α : Type} {f : Nat → α} {y : Nat} {z : α} : pt f y z y = z := if_pos rfl
theorem pt_ne {α : Type} {f : Nat → α} {y q : Nat} {z : α} (h : q ≠ y) : pt f y z q = f q := if_neg h
def FLs (σ : Mem) (F : Nat → Nat → Int) : Prop := ∀ x y, x < 9 → y < 9 → σ 409 (9 * x + y) = zI (F x y)
def WK (σ0 σ : Mem) (F : Nat → Nat → Int) (Lb : Nat → Option Nat) : Prop := (∀ c, c ≠ 409 → c ≠ 410 → σ c = σ0 c) ∧ FLs σ F ∧ ∀ x, x < 9 → σ 410 x = oI (Lb x)
noncomputable def cntL (v : View) (Lb : Nat → Option Nat) : Nat := cntB (fun x => (Lb x).isSome) v.n
/-- who was reached, from where -/
def LBL (v : View) (s : Nat) (F : Nat → Nat → Int) (Lb : Nat → Option Nat) (r : Nat → Nat) : Prop := Lb s = some s ∧ (∀ x, x < v.n → Lb x ≠ none → r x < cntL v Lb) ∧ (∀ x y, x < v.n → Lb x = some y → y < v.n) ∧ ∀ x y, x < v.n → x ≠ s → Lb x = some y → v.way y x = true ∧ F y x ≤ 0 ∧ Lb y ≠ none ∧ r y < r x
def Shut (v : View) (F : Nat → Nat → Int) (Lb : Nat → Option Nat) : Prop := ∀ p q, p < v.n → q < v.n → Lb p ≠ none → Lb q = none → v.way p q = true → ¬ F p q ≤ 0
section WALKS
variable {σ σ0 σ1 σ2 τ : Mem} {v : View} {e s t k x y : Nat} {F F2 : Nat → Nat → Int} {Lb Lb0 : Nat → Option Nat} {r : Nat → Nat}
theorem ln409 : ln 409 = 81 := by decide +kernel
theorem ln410 : ln 410 = 9 := by decide +kernel
theorem cntB_put {f g : Nat → Bool} {n y : Nat} (hy : y < n) (h1 : f y = false) (h2 : g y = true) (h3 : ∀ i, i ≠ y → g i = f i) : cntB g n = cntB f n + 1 := by
  induction n with
  | zero => omega
  | succ n ih =>
    unfold cntB
    by_cases e : y = n
    · subst e
      rw [cntB_congr (g := f) (fun i hi => h3 i (by omega)), h1, h2, if_pos rfl, if_neg (by decide)]
    · rw [ih (by omega), h3 n (fun z => e z.symm)]; omega
theorem FLs.lo (h : Flo v s t F k) {a b : Nat} (ha : a < v.n) (hb : b < v.n) : -1 ≤ F a b ∧ F a b ≤ 1 := by
  have h1 := h.1 a b ha hb
  have h2 := h.2.1 a b ha hb
  have h3 := h.2.1 b a hb ha
  omega
/-- one is reached from another -/
theorem LBL.put (h : LBL v s F Lb r) (hx : x < v.n) (hy : y < v.n) (lx : Lb x ≠ none) (ly : Lb y = none) (hw : v.way x y = true) (hf : F x y ≤ 0) : LBL v s F (pt Lb y (some x)) (pt r y (r x + 1)) ∧ cntL v (pt Lb y (some x)) = cntL v Lb + 1 := by
  obtain ⟨h1, h2, h3, h4⟩ := h
  have hys : y ≠ s := fun z => by rw [z, h1] at ly; cases ly
  have hc : cntL v (pt Lb y (some x)) = cntL v Lb + 1 := cntB_put (f := fun q => (Lb q).isSome) (g := fun q => (pt Lb y (some x) q).isSome) hy (by show (Lb y).isSome = false; rw [ly]; rfl) (by show (pt Lb y (some x) y).isSome = true; rw [pt_at]; rfl) (fun i hi => by show (pt Lb y (some x) i).isSome = (Lb i).isSome; rw [pt_ne hi])
  refine ⟨⟨by rw [pt_ne (fun z => hys z.symm)]; exact h1, fun q hq hl => ?_, fun q z hq hl => ?_, fun q z hq hqs hl => ?_⟩, hc⟩
  · rw [hc]
    by_cases c : q = y
    · rw [c, pt_at]; have := h2 x hx lx; omega
    · rw [pt_ne c] at hl ⊢; have := h2 q hq hl; omega
  · by_cases c : q = y
    · rw [c, pt_at] at hl; cases hl; exact hx
    · rw [pt_ne c] at hl; exact h3 q z hq hl
  · by_cases c : q = y
    · subst c
      rw [pt_at] at hl
      cases hl
      have hxq : x ≠ q := fun z => lx (by rw [z]; exact ly)
      exact ⟨hw, hf, by rw [pt_ne hxq]; exact lx, by rw [pt_ne hxq, pt_at]; omega⟩
    · rw [pt_ne c] at hl
      obtain ⟨a1, a2, a3, a4⟩ := h4 q z hq hqs hl
      have hzy : z ≠ y := fun w => a3 (by rw [w]; exact ly)
      exact ⟨a1, a2, by rw [pt_ne hzy]; exact a3, by rw [pt_ne hzy, pt_ne c]; exact a4⟩
theorem m_pass (W : WF v) (M : SM (σ0 400) v) (hF : Flo v s t F k) (hw0 : WK σ0 σ F Lb0) (hl0 : LBL v s F Lb0 r) {rc : Int32 → Int32 → Int32 → Mem → Option (Int32 × Mem)} {y1 y2 : Int32} {Q : Option (Int32 × Mem) → Prop} (hq : ∀ (c : Bool) (σ2 : Mem) (Lb : Nat → Option Nat) (r : Nat → Nat), WK σ0 σ2 F Lb → LBL v s F Lb r → (c = false → Shut v F Lb) → (c = true → cntL v Lb0 < cntL v Lb) → Q (rc y1 y2 (b2i c) σ2)) : Q (X12_findsWalk_49 rc FU y1 y2 0 0 σ) := by
  have h9 := W.n9
  let I : Nat → Nat → Bool → Mem → Prop := fun x y c m => ∃ (Lb : Nat → Option Nat) (r : Nat → Nat), WK σ0 m F Lb ∧ LBL v s F Lb r ∧ cntL v Lb0 ≤ cntL v Lb ∧ (c = true → cntL v Lb0 < cntL v Lb) ∧ (c = false → ∀ p q, p < v.n → q < v.n → (p < x ∨ p = x ∧ q < y) → Lb p ≠ none → Lb q = none → v.way p q = true → ¬ F p q ≤ 0)
  rw [show (0 : Int32) = nI 0 from rfl]
  refine loop_P (L := fun f (a : Bool × Mem) x => X12_findsWalk_49 rc f y1 y2 (b2i a.1) x a.2) (P := fun x a => I x 0 a.1 a.2) (Q := Q) (n := v.n) (a := (false, σ)) (fun f a hP => ?_) (fun f a x hx hP => Or.inr ?_) (Nat.zero_le _) (FUb (by omega)) ⟨Lb0, r, hw0, hl0, Nat.le_refl _, fun z => (by cases z), fun _ p q _ _ h => by omega⟩
  · obtain ⟨Lb, r, p1, p2, p3, p4, p5⟩ := hP
    have M1 : SM (a.2 400) v := by rw [p1.1 400 (by decide) (by decide)]; exact M
    rw [X12_findsWalk_49, show (3 : Int32) = nI 3 from rfl, a_n M1, bd_s, if_pos (nI_le (Nat.le_refl _) (by omega))]
    exact hq a.1 a.2 Lb r p1 p2 (fun c p q hp hq2 => p5 c p q hp hq2 (Or.inl hp)) p4
  · have M1 : SM (a.2 400) v := by obtain ⟨Lb, r, p1, -⟩ := hP; rw [p1.1 400 (by decide) (by decide)]; exact M
    have key : ∃ a' : Bool × Mem, X12_findsWalk_63 rc (X12_findsWalk_49 rc f) FU y1 y2 (b2i a.1) (nI x) (nI 0) a.2 = X12_findsWalk_49 rc f y1 y2 (b2i a'.1) (nI (x + 1)) a'.2 ∧ I (x + 1) 0 a'.1 a'.2 := by
      refine loop_P (L := fun f2 (m : Bool × Mem) y => X12_findsWalk_63 rc (X12_findsWalk_49 rc f) f2 y1 y2 (b2i m.1) (nI x) y m.2) (P := fun y m => I x y m.1 m.2) (Q := fun z => ∃ a' : Bool × Mem, z = X12_findsWalk_49 rc f y1 y2 (b2i a'.1) (nI (x + 1)) a'.2 ∧ I (x + 1) 0 a'.1 a'.2) (n := v.n) (a := a) (fun f2 m hm => ?_) (fun f2 m y hy hm => Or.inr ?_) (Nat.zero_le _) (FUb (by omega)) hP
      · obtain ⟨Lb, r, p1, p2, p3, p4, p5⟩ := hm
        have M2 : SM (m.2 400) v := by rw [p1.1 400 (by decide) (by decide)]; exact M
        refine ⟨m, ?_, Lb, r, p1, p2, p3, p4, fun c p q hp hq2 hpq => p5 c p q hp hq2 (by omega)⟩
        rw [X12_findsWalk_63, show (3 : Int32) = nI 3 from rfl, a_n M2, bd_s, if_pos (nI_le (Nat.le_refl _) (by omega)), nI_1]
      · obtain ⟨Lb, r, p1, p2, p3, p4, p5⟩ := hm
        have M2 : SM (m.2 400) v := by rw [p1.1 400 (by decide) (by decide)]; exact M
        have lb31 : ∀ q, q < v.n → ((oI (Lb q) = -1) ↔ Lb q = none) := fun q hq2 => oI_m1 fun w hw => by have := p2.2.2.1 q w hq2 hw; omega
        have keep : ∀ c0 : Bool, m.1 = c0 → (∀ h : (Lb x ≠ none ∧ Lb y = none ∧ v.way x y = true), ¬ F x y ≤ 0) → I x (y + 1) m.1 m.2 := fun c0 _ hno => ⟨Lb, r, p1, p2, p3, p4, fun c p q hp hq2 hpq l1 l2 l3 => by
          by_cases e : p = x ∧ q = y
          · rw [e.1] at l1 l3 ⊢; rw [e.2] at l2 l3 ⊢
            exact hno ⟨l1, l2, l3⟩
          · exact p5 c p q hp hq2 (by omega) l1 l2 l3⟩
        have rd : ∀ q, q < v.n → ag m.2 410 (nI q) = some (oI (Lb q)) := fun q hq2 => by rw [ag_nI (by rw [ln410]; omega) (by omega), p1.2.2 q (by omega)]
        rw [X12_findsWalk_63, show (3 : Int32) = nI 3 from rfl, a_n M2, bd_s, if_neg (nI_ge hy (by omega)), rd x hx, bd_s]
        by_cases c1 : Lb x = none
        · rw [if_pos ((lb31 x hx).mpr c1)]
          exact ⟨m, by rw [nI_1], keep m.1 rfl (fun h => absurd c1 h.1)⟩
        · rw [if_neg (fun z => c1 ((lb31 x hx).mp z)), rd y hy, bd_s]
          by_cases c2 : Lb y = none
          · rw [if_pos ((lb31 y hy).mpr c2), m_isWay W M2 hx hy, bd_s]
            cases c3 : v.way x y with
            | false =>
              rw [if_pos (show b2i false = 0 from rfl)]
              exact ⟨m, by rw [nI_1], keep m.1 rfl (fun h => by rw [c3] at h; exact absurd h.2.2 (by decide))⟩
            | true =>
              have lo := FLs.lo hF hx hy
              rw [if_neg (show ¬ b2i true = 0 by decide), show (9 : Int32) = nI 9 from rfl, nI_mul, nI_add, ag_nI (by rw [ln409]; omega) (by omega), bd_s, p1.2.1 x y (by omega) (by omega)]
              by_cases c4 : F x y ≤ 0
              · obtain ⟨q1, q2⟩ := p2.put hx hy c1 c2 c3 c4
                rw [if_pos ((zI_le lo.1 lo.2).mpr c4), au_nI (by rw [ln410]; omega) (by omega), bd_s]
                have wk : WK σ0 (st m.2 410 y (nI x)) F (pt Lb y (some x)) := ⟨fun c g1 g2 => by rw [st_n g2, p1.1 c g1 g2], fun a b ha hb => by rw [st_n (by decide)]; exact p1.2.1 a b ha hb, fun q hq2 => by
                  by_cases c : q = y
                  · rw [c, st_at, pt_at]; rfl
                  · rw [st_at' c, pt_ne c]; exact p1.2.2 q hq2⟩
                exact ⟨(true, st m.2 410 y (nI x)), by rw [nI_1]; rfl, _, _, wk, q1, by omega, fun _ => by omega, fun z => by cases z⟩
              · rw [if_neg (fun z => c4 ((zI_le lo.1 lo.2).mp z))]
                exact ⟨m, by rw [nI_1], keep m.1 rfl (fun _ => c4)⟩
          · rw [if_neg (fun z => c2 ((lb31 y hy).mp z))]
            exact ⟨m, by rw [nI_1], keep m.1 rfl (fun h => absurd h.2.1 c2)⟩
    obtain ⟨a', k1, k2⟩ := key
    exact ⟨a', by rw [X12_findsWalk_49, show (3 : Int32) = nI 3 from rfl, a_n M1, bd_s, if_neg (nI_ge hx (by omega)), show (0 : Int32) = nI 0 from rfl, k1], k2⟩
/-! along the walk one more flows -/
def Aug (v : View) (s t : Nat) (F F2 : Nat → Nat → Int) (Lb : Nat → Option Nat) (r : Nat → Nat) (x : Nat) : Prop := (∀ a b, a < v.n → b < v.n → F2 a b = - F2 b a) ∧ (∀ a b, a < v.n → b < v.n → F2 a b ≤ 1) ∧ (∀ a b, a < v.n → b < v.n → v.way a b = false → F2 a b = 0) ∧ (∀ p, p < v.n → smI (F2 p) v.n = smI (F p) v.n + (if p = x then 1 else 0) - (if p = t then 1 else 0)) ∧ ∀ a b, a < v.n → b < v.n → r a ≤ r x → r b ≤ r x → F2 a b = F a b
theorem Aug.step (W : WF v) (h : Aug v s t F F2 Lb r x) (hl : LBL v s F Lb r) (hx : x < v.n) (hxs : x ≠ s) (lx : Lb x = some y) : Aug v s t F (fun a b => F2 a b + (if a = y ∧ b = x then 1 else 0) - (if a = x ∧ b = y then 1 else 0)) Lb r y := by
  obtain ⟨a1, a2, a3, a4⟩ := hl.2.2.2 x y hx hxs lx
  have hy := hl.2.2.1 x y hx lx
  have hxy : x ≠ y := fun z => by rw [z] at a4; omega
  obtain ⟨h1, h2, h3, h4, h5⟩ := h
  have e0 : F2 y x = F y x := h5 y x hy hx (by omega) (by omega)
  refine ⟨fun a b ha hb => ?_, fun a b ha hb => ?_, fun a b ha hb hw => ?_, fun p hp => ?_, fun a b ha hb r1 r2 => ?_⟩ <;> dsimp only
  · have := h1 a b ha hb
    by_cases c : a = y ∧ b = x
    · rw [if_pos c, if_neg (by omega), if_neg (by omega), if_pos ⟨c.2, c.1⟩]; omega
    · rw [if_neg c]
      by_cases c2 : a = x ∧ b = y
      · rw [if_pos c2, if_pos ⟨c2.2, c2.1⟩, if_neg (by omega)]; omega
      · rw [if_neg c2, if_neg (by omega), if_neg (by omega)]; omega
  · have := h2 a b ha hb
    by_cases c : a = y ∧ b = x
    · rw [if_pos c, if_neg (by omega), c.1, c.2, e0]; omega
    · rw [if_neg c]
      by_cases c2 : a = x ∧ b = y
      · rw [if_pos c2]; omega
      · rw [if_neg c2]; omega
  · have := h3 a b ha hb hw
    by_cases c : a = y ∧ b = x
    · rw [c.1, c.2, a1] at hw; cases hw
    · rw [if_neg c]
      by_cases c2 : a = x ∧ b = y
      · rw [c2.1, c2.2, W.sym x y hx hy, a1] at hw; cases hw
      · rw [if_neg c2]; omega
  · have e1 : smI (fun b => F2 p b + (if p = y ∧ b = x then 1 else 0) - (if p = x ∧ b = y then 1 else 0)) v.n = smI (F2 p) v.n + (if p = y then 1 else 0) - (if p = x then 1 else 0) := by
      have q1 : smI (fun b => if p = y ∧ b = x then (1 : Int) else 0) v.n = if p = y then 1 else 0 := by
        by_cases c : p = y
        · rw [if_pos c, smI_congr (g := fun b => if b = x then (1 : Int) else 0) (fun b _ => by by_cases d : b = x <;> simp [c, d])]
          exact smI_one hx
        · rw [if_neg c]; exact smI_0 fun b _ => if_neg (fun z => c z.1)
      have q2 : smI (fun b => if p = x ∧ b = y then (-1 : Int) else 0) v.n = if p = x then -1 else 0 := by
        by_cases c : p = x
        · rw [if_pos c, smI_congr (g := fun b => if b = y then (-1 : Int) else 0) (fun b _ => by by_cases d : b = y <;> simp [c, d])]
          exact smI_one hy
        · rw [if_neg c]; exact smI_0 fun b _ => if_neg (fun z => c z.1)
      have q3 : smI (fun b => F2 p b + (if p = y ∧ b = x then 1 else 0) - (if p = x ∧ b = y then 1 else 0)) v.n = smI (fun b => (F2 p b + (if p = y ∧ b = x then 1 else 0)) + (if p = x ∧ b = y then (-1 : Int) else 0)) v.n := smI_congr fun b _ => by
        by_cases d : p = x ∧ b = y
        · rw [if_pos d, if_pos d]; omega
        · rw [if_neg d, if_neg d]; omega
      rw [q3, smI_add, smI_add, q1, q2]
      by_cases d : p = x
      · rw [if_pos d, if_pos d]; omega
      · rw [if_neg d, if_neg d]; omega
    rw [e1, h4 p hp]
    omega
  · have hax : a ≠ x := fun z => by rw [z] at r1; omega
    have hbx : b ≠ x := fun z => by rw [z] at r2; omega
    rw [if_neg (fun z => hbx z.2), if_neg (fun z => hax z.1), h5 a b ha hb (by omega) (by omega)]
    omega
theorem m_aug (W : WF v) (hs : s < v.n) (hl : LBL v s F Lb r) : ∀ (m fuel x : Nat) (σ : Mem) (F2 : Nat → Nat → Int), r x ≤ m → m < fuel → x < v.n → Lb x ≠ none → WK σ0 σ F2 Lb → Aug v s t F F2 Lb r x → ∃ σ2 F3, X12_findsWalk_167 fuel (nI s) (nI x) σ = some (1, σ2) ∧ WK σ0 σ2 F3 Lb ∧ Aug v s t F F3 Lb r s := by
  have h9 := W.n9
  intro m
  induction m with
  | zero =>
    intro fuel x σ F2 h1 h2 hx lx hk ha
    obtain ⟨fuel, rfl⟩ : ∃ z, fuel = z + 1 := ⟨fuel - 1, by omega⟩
    by_cases c : x = s
    · subst c
      exact ⟨σ, F2, by rw [X12_findsWalk_167, if_pos rfl]; rfl, hk, ha⟩
    · cases hy : Lb x with
      | none => exact absurd hy lx
      | some y => have := (hl.2.2.2 x y hx c hy).2.2.2; omega
  | succ m ih =>
    intro fuel x σ F2 h1 h2 hx lx hk ha
    obtain ⟨fuel, rfl⟩ : ∃ z, fuel = z + 1 := ⟨fuel - 1, by omega⟩
    by_cases c : x = s
    · subst c
      exact ⟨σ, F2, by rw [X12_findsWalk_167, if_pos rfl]; rfl, hk, ha⟩
    · cases hy : Lb x with
      | none => exact absurd hy lx
      | some y =>
        obtain ⟨a1, a2, a3, a4⟩ := hl.2.2.2 x y hx c hy
        have hyn := hl.2.2.1 x y hx hy
        have hxy : x ≠ y := fun z => by rw [z] at a4; omega
        have lo : ∀ a b, a < v.n → b < v.n → -1 ≤ F2 a b ∧ F2 a b ≤ 1 := fun a b h1 h2 => by
          have := ha.1 a b h1 h2
          have := ha.2.1 a b h1 h2
          have := ha.2.1 b a h2 h1
          omega
        have rd : ∀ τ : Mem, τ 410 = σ 410 → ag τ 410 (nI x) = some (nI y) := fun τ ht => by rw [ag_nI (by rw [ln410]; omega) (by omega), ht, hk.2.2 x (by omega), hy]; rfl
        have step := ha.step W hl hx c hy
        obtain ⟨σ3, F3, b1, b2, b3⟩ := ih fuel y (st (st σ 409 (9 * y + x) (zI (F2 y x + 1))) 409 (9 * x + y) (zI (F2 x y - 1))) _ (by omega) (by omega) hyn a3 ⟨fun q g1 g2 => by rw [st_n g1, st_n g1, hk.1 q g1 g2], fun a b ha2 hb2 => by
          by_cases d1 : a = x ∧ b = y
          · rw [d1.1, d1.2, st_at, if_neg (by omega), if_pos ⟨rfl, rfl⟩]; congr 1; omega
          · rw [st_at' (by omega)]
            by_cases d2 : a = y ∧ b = x
            · rw [d2.1, d2.2, st_at, if_pos ⟨rfl, rfl⟩, if_neg (by omega)]; congr 1; omega
            · rw [st_at' (by omega), if_neg d2, if_neg d1, hk.2.1 a b ha2 hb2]; congr 1; omega, fun q hq => by rw [st_n (by decide), st_n (by decide)]; exact hk.2.2 q hq⟩ step
        refine ⟨σ3, F3, ?_, b2, b3⟩
        have l1 := lo y x hyn hx
        have l2 := lo x y hx hyn
        rw [X12_findsWalk_167, if_neg (fun z => c (nI_inj (by omega) (by omega) z)), rd σ rfl, bd_s, show (9 : Int32) = nI 9 from rfl, nI_mul, nI_add, ag_nI (by rw [ln409]; omega) (by omega), bd_s, hk.2.1 y x (by omega) (by omega), zI_p l1.1 l1.2, au_nI (by rw [ln409]; omega) (by omega), bd_s, rd _ (st_n (by decide)), bd_s, nI_mul, nI_add, ag_nI (by rw [ln409]; omega) (by omega), bd_s, st_at' (by omega), hk.2.1 x y (by omega) (by omega), zI_m l2.1 l2.2, au_nI (by rw [ln409]; omega) (by omega), bd_s, rd _ (by rw [st_n (by decide), st_n (by decide)]), bd_s]
        exact b1
/-- what a search comes to -/
def Fnd (σ0 : Mem) (v : View) (s t : Nat) (F : Nat → Nat → Int) (k : Nat) (z : Option (Int32 × Mem)) : Prop := (∃ σ2 Lb, z = some (0, σ2) ∧ (∀ c, c ≠ 409 → c ≠ 410 → σ2 c = σ0 c) ∧ Lb s ≠ none ∧ Lb t = none ∧ Shut v F Lb) ∨ ∃ σ2 F2, z = some (1, σ2) ∧ (∀ c, c ≠ 409 → c ≠ 410 → σ2 c = σ0 c) ∧ FLs σ2 F2 ∧ Flo v s t F2 (k + 1)
theorem m_152 (W : WF v) (hs : s < v.n) (ht : t < v.n) (hst : s ≠ t) (hF : Flo v s t F k) (hk : WK σ0 σ F Lb) (hl : LBL v s F Lb r) (hsh : Lb t = none → Shut v F Lb) : Fnd σ0 v s t F k (X12_findsWalk_152 (nI s) (nI t) σ) := by
  have h9 := W.n9
  unfold X12_findsWalk_152
  rw [ag_nI (by rw [ln410]; omega) (by omega), bd_s, hk.2.2 t (by omega)]
  cases hlt : Lb t with
  | none =>
    rw [if_pos (show oI none = -1 from rfl), gbz, bd_s]
    exact Or.inl ⟨σ, Lb, rfl, hk.1, by rw [hl.1]; exact (fun z => nomatch z), hlt, hsh hlt⟩
  | some y =>
    have hyn := hl.2.2.1 t y ht hlt
    rw [if_neg (show ¬ oI (some y) = -1 from nI_m1 (by omega))]
    have hr := hl.2.1 t ht (by rw [hlt]; exact fun z => nomatch z)
    have hcl : cntL v Lb ≤ v.n := cntB_le
    obtain ⟨σ2, F3, b1, b2, b3⟩ := m_aug (σ0 := σ0) (t := t) W hs hl (r t) FU t σ F (Nat.le_refl _) (FUb (by omega)) ht (by rw [hlt]; exact fun z => nomatch z) hk ⟨hF.1, hF.2.1, hF.2.2.1, fun p hp => by omega, fun _ _ _ _ _ _ => rfl⟩
    refine Or.inr ⟨σ2, F3, b1, b2.1, b2.2.1, b3.1, b3.2.1, b3.2.2.1, fun p hp h1 h2 => ?_, ?_⟩
    · rw [b3.2.2.2.1 p hp, hF.2.2.2.1 p hp h1 h2, if_neg h1, if_neg h2]; rfl
    · rw [b3.2.2.2.1 s hs, hF.2.2.2.2, if_pos rfl, if_neg hst]; omega
theorem m_30 (W : WF v) (M : SM (σ0 400) v) (hs : s < v.n) (ht : t < v.n) (hst : s ≠ t) (hF : Flo v s t F k) : ∀ (m fuel : Nat) (σ : Mem) (Lb : Nat → Option Nat) (r : Nat → Nat), v.n - cntL v Lb ≤ m → m + 1 < fuel → WK σ0 σ F Lb → LBL v s F Lb r → Fnd σ0 v s t F k (X12_findsWalk_30 fuel (nI s) (nI t) 1 σ) := by
  have h9 := W.n9
  intro m
  induction m with
  | zero =>
    intro fuel σ Lb r h1 h2 hk hl
    obtain ⟨fuel, rfl⟩ : ∃ z, fuel = z + 2 := ⟨fuel - 2, by omega⟩
    rw [X12_findsWalk_30, if_neg (by decide), ag_nI (by rw [ln410]; omega) (by omega), bd_s, hk.2.2 t (by omega)]
    cases hlt : Lb t with
    | none =>
      rw [if_pos (show oI none = -1 from rfl)]
      refine m_pass W M hF hk hl (Q := Fnd σ0 v s t F k) (fun c σ2 Lb2 r2 q1 q2 q3 q4 => ?_)
      cases c with
      | false => rw [X12_findsWalk_30, if_pos (show b2i false = 0 from rfl)]; exact m_152 W hs ht hst hF q1 q2 (fun _ => q3 rfl)
      | true =>
        have := q4 rfl
        have hcl : cntL v Lb2 ≤ v.n := cntB_le
        omega
    | some y =>
      have hyn := hl.2.2.1 t y ht hlt
      rw [if_neg (show ¬ oI (some y) = -1 from nI_m1 (by omega))]
      exact m_152 W hs ht hst hF hk hl (fun z => by rw [hlt] at z; cases z)
  | succ m ih =>
    intro fuel σ Lb r h1 h2 hk hl
    obtain ⟨fuel, rfl⟩ : ∃ z, fuel = z + 2 := ⟨fuel - 2, by omega⟩
    rw [X12_findsWalk_30, if_neg (by decide), ag_nI (by rw [ln410]; omega) (by omega), bd_s, hk.2.2 t (by omega)]
    cases hlt : Lb t with
    | none =>
      rw [if_pos (show oI none = -1 from rfl)]
      refine m_pass W M hF hk hl (Q := Fnd σ0 v s t F k) (fun c σ2 Lb2 r2 q1 q2 q3 q4 => ?_)
      cases c with
      | false => rw [X12_findsWalk_30, if_pos (show b2i false = 0 from rfl)]; exact m_152 W hs ht hst hF q1 q2 (fun _ => q3 rfl)
      | true =>
        have := q4 rfl
        exact ih (fuel + 1) σ2 Lb2 r2 (by omega) (by omega) q1 q2
    | some y =>
      have hyn := hl.2.2.1 t y ht hlt
      rw [if_neg (show ¬ oI (some y) = -1 from nI_m1 (by omega))]
      exact m_152 W hs ht hst hF hk hl (fun z => by rw [hlt] at z; cases z)
end WALKS

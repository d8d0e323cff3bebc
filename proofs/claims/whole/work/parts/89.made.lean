/-! the fewest to be made up -/
theorem anyR_app {P : Nat → Bool} : ∀ (m i : Nat), anyR P i (m + 1) = (anyR P i m || P (i + m)) := by
  intro m
  induction m with
  | zero => intro i; rw [anyR, anyR, anyR, Bool.or_false, Bool.false_or, Nat.add_zero]
  | succ m ih => intro i; rw [anyR, ih (i + 1), anyR, Bool.or_assoc, show i + 1 + m = i + (m + 1) by omega]
theorem anyR_no {P : Nat → Bool} {m i : Nat} : anyR P i m = false ↔ ∀ p, i ≤ p → p < i + m → P p = false := by
  rw [← Bool.not_eq_true, anyR_iff]
  constructor
  · intro h p h1 h2
    cases hp : P p with
    | false => rfl
    | true => exact absurd ⟨p, h1, h2, hp⟩ h
  · rintro h ⟨p, h1, h2, h3⟩
    rw [h p h1 h2] at h3; cases h3
noncomputable def View.nd (v : View) (L : Lw) (p : Nat) : Bool := !v.burn p && decide (v.own p ≠ none) && decide (mkB (v.can L p) v.k = 0)
noncomputable def View.bad (v : View) (L : Lw) (p : Nat) : Bool := v.nd L p && decide (mkB (v.can9 L p) v.k = 0)
noncomputable def View.made (v : View) (L : Lw) : Int32 := if anyR (v.bad L) 0 v.n = true then -1 else nI (cntB (v.nd L) v.n)
/-- of a walker's pane -/
noncomputable def View.ndW (v : View) (L : Lw) (w : Nat) : Bool := anyR (fun p => v.nd L p && decide (v.own p = some w)) 0 v.n
noncomputable def View.badW (v : View) (L : Lw) (w : Nat) : Bool := anyR (fun p => v.bad L p && decide (v.own p = some w)) 0 v.n
noncomputable def View.hit (v : View) (L : Lw) (S p : Nat) : Bool := anyR (fun x => S.testBit x && v.can9 L p x) 0 v.k
noncomputable def View.okS (v : View) (L : Lw) (w S : Nat) : Bool := !anyR (fun p => v.nd L p && decide (v.own p = some w) && !v.hit L S p) 0 v.n
noncomputable def View.mkFor (v : View) (L : Lw) (w : Nat) : Option Nat := if v.ndW L w = true then (if v.badW L w = true then none else some 1) else some 0
section MADE
variable {σ : Mem} {v : View} {e : Nat} {L : Lw}
theorem why_nd (h6 : v.k ≤ 6) {p : Nat} (h : v.nd L p = true) : v.why L p = mkB (v.can9 L p) v.k := by
  unfold View.nd at h
  simp only [Bool.and_eq_true, Bool.not_eq_true', decide_eq_true_eq] at h
  obtain ⟨⟨h1, h2⟩, h3⟩ := h
  unfold View.why
  rw [if_neg (by rintro (z | z); rw [h1] at z; cases z; exact h2 z)]
  have h3 := (mk_eq_0 (by omega)).mp h3
  apply mk_congr
  intro i hi
  rw [h3 i hi, Bool.false_or]
theorem e_made (W : WF v) (R : SC σ 9 v e) (K : LC σ 72 L) : ∃ σ2, X1_fewestMadeUp 9 72 σ = some (v.made L, σ2) ∧ FL σ σ2 := by
  have h9 := W.n9
  have h6 := W.k6
  unfold X1_fewestMadeUp
  rw [show (0 : Int32) = nI 0 from rfl]
  refine loop_P (L := fun f (a : Int32 × Mem) i => X1_fewestMadeUp_5 f 9 72 a.1 i a.2) (P := fun i a => a.1 = nI (cntB (v.nd L) i) ∧ anyR (v.bad L) 0 i = false ∧ FL σ a.2) (Q := fun r => ∃ σ2, r = some (v.made L, σ2) ∧ FL σ σ2) (n := v.n) (a := (nI 0, σ)) (fun f a hP => ?_) (fun f a i hi hP => ?_) (Nat.zero_le _) (FUb (by omega)) ⟨rfl, rfl, FL.refl⟩
  · obtain ⟨p1, p2, p3⟩ := hP
    refine ⟨a.2, ?_, p3⟩
    show X1_fewestMadeUp_5 (f + 1) 9 72 a.1 (nI v.n) a.2 = _
    rw [X1_fewestMadeUp_5, (p3.sc R).n, if_pos (nI_le (Nat.le_refl _) (by omega)), p1]
    unfold View.made
    rw [p2, if_neg (by decide)]
  · obtain ⟨p1, p2, p3⟩ := hP
    obtain ⟨c, τ⟩ := a
    simp only at p1 p2 p3 ⊢
    have R1 := p3.sc R
    have skip : ∀ ρ : Mem, FL σ ρ → v.nd L i = false → ∃ a' : Int32 × Mem, X1_fewestMadeUp_5 f 9 72 c (nI (i + 1)) ρ = X1_fewestMadeUp_5 f 9 72 a'.1 (nI (i + 1)) a'.2 ∧ a'.1 = nI (cntB (v.nd L) (i + 1)) ∧ anyR (v.bad L) 0 (i + 1) = false ∧ FL σ a'.2 := by
      intro ρ hρ hn
      refine ⟨(c, ρ), rfl, ?_, ?_, hρ⟩
      · rw [cntB, hn, if_neg (by decide), p1]; rfl
      · rw [anyR_app, p2, Nat.zero_add]
        unfold View.bad
        rw [hn]; rfl
    rw [X1_fewestMadeUp_5, R1.n, if_neg (nI_ge hi (by omega)), e_isBurning W R1 hi, bd_s]
    unfold X1_fewestMadeUp_40 X1_fewestMadeUp_41
    rw [nI_1]
    cases hb : v.burn i with
    | true =>
      right
      rw [if_neg (show ¬ b2i true = 0 by decide), if_pos rfl]
      exact skip τ p3 (by unfold View.nd; rw [hb]; rfl)
    | false =>
      rw [if_pos (show b2i false = 0 from rfl), show X6_get τ (9 + 3) (nI i) = _ from g_own kd9' W R1 hi, bd_s]
      by_cases ho : v.own i = none
      · right
        rw [if_pos (show oI (v.own i) = -1 by rw [ho]; rfl), if_pos rfl]
        exact skip τ p3 (by unfold View.nd; simp [ho])
      · rw [if_neg (fun z : oI (v.own i) = -1 => ho ((own_on W hi).mp z)), if_neg (show ¬ (1 : Int32) = 0 by decide)]
        obtain ⟨ρ, r1, r2⟩ := e_can W R1 (p3.lc K) hi
        have f1 := p3.trans r2
        rw [r1, bd2_s]
        by_cases hc : mkB (v.can L i) v.k = 0
        · have hnd : v.nd L i = true := by unfold View.nd; simp [hb, ho, hc]
          obtain ⟨ρ2, s1, s2⟩ := e_why W (f1.sc R) (f1.lc K) hi
          have f2 := f1.trans s2
          rw [if_pos hc, s1, bd2_s, why_nd h6 hnd]
          by_cases hc9 : mkB (v.can9 L i) v.k = 0
          · left
            rw [if_pos hc9]
            refine ⟨ρ2, ?_, f2⟩
            unfold View.made
            rw [if_pos (anyR_iff.mpr ⟨i, Nat.zero_le _, by omega, by unfold View.bad; simp [hnd, hc9]⟩)]
          · right
            rw [if_neg hc9]
            refine ⟨(c + 1, ρ2), rfl, ?_, ?_, f2⟩
            · rw [cntB, hnd, if_pos rfl, p1, nI_1]
            · rw [anyR_app, p2, Nat.zero_add]
              unfold View.bad
              rw [decide_eq_false hc9, Bool.and_false]; rfl
        · right
          rw [if_neg hc]
          exact skip ρ f1 (by unfold View.nd; rw [decide_eq_false hc, Bool.and_false])
/-- a set of walkers tried: of the reference -/
theorem m_tryS (W : WF v) (M : SM (σ 400) v) (K : LT v.txt L) (hb : BO σ) {w S : Nat} (hw : w < v.k) (hS : S < 64) {rc4 : Int32 → Int32 → Int32 → Mem → Option (Int32 × Mem)} {x2 : Int32} : ∃ σ2, X12_madeFor_52 rc4 FU (nI w) x2 (nI S) 1 0 σ = X12_madeFor_174 rc4 (nI w) x2 (nI S) (b2i (v.okS L w S)) σ2 ∧ ML σ σ2 := by
  have h9 := W.n9
  have h6 := W.k6
  rw [show (0 : Int32) = nI 0 from rfl]
  let G : Nat → Bool := fun p => v.nd L p && decide (v.own p = some w) && !v.hit L S p
  refine loop_P (L := fun f (a : Bool × Mem) i => X12_madeFor_52 rc4 f (nI w) x2 (nI S) (b2i a.1) i a.2) (P := fun i a => a.1 = !anyR G 0 i ∧ ML σ a.2) (Q := fun r => ∃ σ2, r = X12_madeFor_174 rc4 (nI w) x2 (nI S) (b2i (v.okS L w S)) σ2 ∧ ML σ σ2) (n := v.n) (a := (true, σ)) (fun f a hP => ?_) (fun f a i hi hP => ?_) (Nat.zero_le _) (FUb (by omega)) ⟨rfl, ML.refl hb⟩
  · obtain ⟨p1, p2⟩ := hP
    refine ⟨a.2, ?_, p2⟩
    show X12_madeFor_52 rc4 (f + 1) (nI w) x2 (nI S) (b2i a.1) (nI v.n) a.2 = _
    rw [X12_madeFor_52, show (3 : Int32) = nI 3 from rfl, a_n (p2.sm M), bd_s, if_pos (nI_le (Nat.le_refl _) (by omega)), p1]
    rfl
  · obtain ⟨p1, p2⟩ := hP
    obtain ⟨c, τ⟩ := a
    simp only at p1 p2 ⊢
    have M1 := p2.sm M
    rw [X12_madeFor_52, show (3 : Int32) = nI 3 from rfl, a_n M1, bd_s, if_neg (nI_ge hi (by omega))]
    cases hc : c with
    | false =>
      left
      rw [if_pos (show b2i false = 0 from rfl)]
      refine ⟨τ, ?_, p2⟩
      have : v.okS L w S = false := by
        rw [hc] at p1
        have p1 : anyR G 0 i = true := by cases h : anyR G 0 i with
          | true => rfl
          | false => rw [h] at p1; cases p1
        obtain ⟨q, q1, q2, q3⟩ := anyR_iff.mp p1
        unfold View.okS
        rw [anyR_iff.mpr ⟨q, q1, by omega, q3⟩]; rfl
      rw [this]
    | true =>
      right
      rw [hc] at p1
      have p1 : anyR G 0 i = false := by cases h : anyR G 0 i with
        | false => rfl
        | true => rw [h] at p1; cases p1
      have skip : ∀ ρ : Mem, ML σ ρ → G i = false → ∃ a' : Bool × Mem, X12_madeFor_52 rc4 f (nI w) x2 (nI S) (b2i true) (nI (i + 1)) ρ = X12_madeFor_52 rc4 f (nI w) x2 (nI S) (b2i a'.1) (nI (i + 1)) a'.2 ∧ (a'.1 = !anyR G 0 (i + 1)) ∧ ML σ a'.2 := by
        intro ρ hρ hg
        refine ⟨(true, ρ), rfl, ?_, hρ⟩
        rw [anyR_app, p1, Nat.zero_add, hg]; rfl
      rw [if_neg (show ¬ b2i true = 0 by decide), show X12_of τ (nI i) 2 = _ from o_own W M1 hi, bd_s, show X12_of τ (nI i) 1 = _ from o_burn W M1 hi, bd_s, nI_1]
      by_cases ho : v.own i = some w
      · rw [if_pos (show oI (v.own i) = nI w by rw [ho]; rfl)]
        cases hbn : v.burn i with
        | true =>
          rw [if_pos (show b2i true = 1 from rfl)]
          exact skip τ p2 (by show (v.nd L i && _ && _) = false; unfold View.nd; rw [hbn]; rfl)
        | false =>
          rw [if_neg (show ¬ b2i false = 1 by decide)]
          obtain ⟨ρ, r1, r2⟩ := m_lighters0 W M1 K p2.1.2.2 hi
          have m1 := p2.trans r2
          rw [r1, bd2_s]
          have key : ∀ (x0 : Bool) (rc : Int32 → Int32 → Int32 → Int32 → Int32 → Mem → Option (Int32 × Mem)), ∃ σ2, X12_madeFor_108 rc4 rc (nI w) x2 (nI S) (nI i) (b2i x0) ρ = rc (nI w) x2 (nI S) (b2i (x0 || v.hit L S i)) (nI (i + 1)) σ2 ∧ ML σ σ2 := by
            intro x0 rc
            unfold X12_madeFor_108
            rw [show (0 : Int32) = nI 0 from rfl]
            refine loop_P (L := fun f (a : Bool × Mem) q => X12_madeFor_113 rc4 rc f (nI w) x2 (nI S) (nI i) (b2i a.1) q a.2) (P := fun q a => a.1 = (x0 || anyR (fun x => S.testBit x && v.can9 L i x) 0 q) ∧ ML σ a.2) (Q := fun r => ∃ σ2, r = rc (nI w) x2 (nI S) (b2i (x0 || v.hit L S i)) (nI (i + 1)) σ2 ∧ ML σ σ2) (n := v.k) (a := (x0, ρ)) (fun f a hP => ?_) (fun f a q hq hP => Or.inr ?_) (Nat.zero_le _) (FUb (by omega)) ⟨by simp [anyR], m1⟩
            · obtain ⟨z1, z2⟩ := hP
              refine ⟨a.2, ?_, z2⟩
              show X12_madeFor_113 rc4 rc (f + 1) (nI w) x2 (nI S) (nI i) (b2i a.1) (nI v.k) a.2 = _
              rw [X12_madeFor_113, show (4 : Int32) = nI 4 from rfl, a_k (z2.sm M), bd_s, if_pos (nI_le (Nat.le_refl _) (by omega)), z1, nI_1]
              rfl
            · obtain ⟨z1, z2⟩ := hP
              obtain ⟨y, ζ⟩ := a
              simp only at z1 z2 ⊢
              have M2 := z2.sm M
              rw [X12_madeFor_113, show (4 : Int32) = nI 4 from rfl, a_k M2, bd_s, if_neg (nI_ge hq (by omega)), e_isOf, hb_nI (by omega) (by omega), bd_s, anyR_app, Nat.zero_add]
              unfold X12_madeFor_155 X12_madeFor_151 X12_madeFor_156
              rw [nI_1]
              cases hy : y with
              | true =>
                rw [if_neg (show ¬ b2i true = 0 by decide)]
                refine ⟨(true, ζ), rfl, ?_, z2⟩
                rw [hy] at z1
                rw [← Bool.or_assoc, ← z1]; rfl
              | false =>
                rw [hy] at z1
                rw [if_pos (show b2i false = 0 from rfl), ← Bool.or_assoc, ← z1, Bool.false_or]
                cases hbit : S.testBit q with
                | false =>
                  rw [if_pos (show b2i false = 0 from rfl)]
                  exact ⟨(false, ζ), rfl, rfl, z2⟩
                | true =>
                  rw [if_neg (show ¬ b2i true = 0 by decide), Bool.true_and]
                  obtain ⟨ζ2, u1, u2⟩ := m_wouldLight W M2 K z2.1.2.2 (w := q) (p := i) (likes := 9) hq hi
                  rw [show X12_wouldLight (nI q) (nI i) 9 ζ = _ from u1, bd2_s]
                  have hu : v.lits L q i 9 (v.tp q) = v.can9 L i q := rfl
                  rw [hu]
                  cases hg : v.can9 L i q with
                  | false => rw [if_pos (show b2i false = 0 from rfl)]; exact ⟨(false, ζ2), rfl, rfl, z2.trans u2⟩
                  | true => rw [if_neg (show ¬ b2i true = 0 by decide)]; exact ⟨(true, ζ2), rfl, rfl, z2.trans u2⟩
          by_cases hc : mkB (v.can L i) v.k = 0
          · have hnd : v.nd L i = true := by unfold View.nd; simp [hbn, ho, hc]
            rw [if_pos hc]
            obtain ⟨σ2, s1, s2⟩ := key false (X12_madeFor_52 rc4 f)
            refine ⟨(v.hit L S i, σ2), ?_, ?_, s2⟩
            · rw [show (0 : Int32) = b2i false from rfl, s1, Bool.false_or]
            · rw [anyR_app, p1, Nat.zero_add, Bool.false_or]
              show v.hit L S i = !(v.nd L i && decide (v.own i = some w) && !v.hit L S i)
              rw [hnd, decide_eq_true ho, Bool.true_and, Bool.true_and, Bool.not_not]
          · rw [if_neg hc]
            obtain ⟨σ2, s1, s2⟩ := key true (X12_madeFor_52 rc4 f)
            obtain ⟨a', e1, e2, e3⟩ := skip σ2 s2 (by show (v.nd L i && _ && _) = false; unfold View.nd; rw [decide_eq_false hc, Bool.and_false]; rfl)
            exact ⟨a', by rw [show (1 : Int32) = b2i true from rfl, s1, Bool.true_or]; exact e1, e2, e3⟩
      · rw [if_neg (fun z => ho ((own_is W hi (by omega)).mp z))]
        exact skip τ p2 (by show (_ && decide (v.own i = some w) && _) = false; rw [decide_eq_false ho, Bool.and_false]; rfl)
theorem cnt0 {f : Nat → Bool} {n : Nat} (h : ∀ i, i < n → f i = false) : cntB f n = 0 := by
  induction n with
  | zero => rfl
  | succ n ih => rw [cntB, ih (fun i hi => h i (by omega)), h n (by omega)]; rfl
theorem cnt_pos {f : Nat → Bool} {n : Nat} (h : cntB f n = 0) : ∀ i, i < n → f i = false := by
  induction n with
  | zero => intro i hi; omega
  | succ n ih =>
    rw [cntB] at h
    intro i hi
    by_cases e : i = n
    · subst e
      cases hf : f i with
      | false => rfl
      | true => rw [hf, if_pos rfl] at h; omega
    · exact ih (by omega) i (by omega)
theorem cnt_or {f g : Nat → Bool} {n : Nat} (h : ∀ i, i < n → f i = true → g i = false) : cntB (fun i => f i || g i) n = cntB f n + cntB g n := by
  induction n with
  | zero => rfl
  | succ n ih =>
    rw [cntB, cntB, cntB, ih (fun i hi => h i (by omega))]
    cases hf : f n with
    | true => rw [h n (by omega) hf]; simp; omega
    | false => cases g n <;> simp; omega
theorem cnt_one {a n : Nat} (h : a < n) : cntB (fun i => decide (i = a)) n = 1 := by
  induction n with
  | zero => omega
  | succ n ih =>
    rw [cntB]
    by_cases e : n = a
    · subst e
      rw [cnt0 (fun i hi => decide_eq_false (by omega)), decide_eq_true rfl, if_pos rfl]
    · rw [ih (by omega), decide_eq_false e, if_neg (by decide)]
/-- which sets do -/
noncomputable def View.good (v : View) (L : Lw) (w S : Nat) : Bool := !S.testBit w && v.okS L w S
theorem hit_0 {p : Nat} : v.hit L 0 p = false := by
  unfold View.hit
  rw [anyR_no]
  intro x _ _
  rw [Nat.zero_testBit]; rfl
theorem nd_one (W : WF v) {w p : Nat} (hp : p < v.n) (ho : v.own p = some w) (f : Nat → Bool) : anyR (fun q => f q && decide (v.own q = some w)) 0 v.n = f p := by
  cases hf : f p with
  | true => exact anyR_iff.mpr ⟨p, Nat.zero_le _, by omega, by simp [hf, ho]⟩
  | false =>
    rw [anyR_no]
    intro q _ hq
    by_cases c : v.own q = some w
    · rw [W.one q p w (by omega) hp c ho, hf]; rfl
    · rw [decide_eq_false c, Bool.and_false]
/-- of the least number of walkers -/
theorem best_is (W : WF v) {w : Nat} (hw : w < v.k) {b : Option Nat} (h : (b = none ∧ ∀ S, S < 64 → S < 2 ^ v.k → v.good L w S = false) ∨ ∃ S, S < 64 ∧ S < 2 ^ v.k ∧ v.good L w S = true ∧ b = some (cntB S.testBit 6) ∧ ∀ S2, S2 < 64 → S2 < 2 ^ v.k → v.good L w S2 = true → cntB S.testBit 6 ≤ cntB S2.testBit 6) : b = v.mkFor L w := by
  have h6 := W.k6
  have h0 : v.good L w 0 = !v.ndW L w := by
    unfold View.good View.okS View.ndW
    rw [Nat.zero_testBit, Bool.not_false, Bool.true_and]
    congr 1
    congr 1
    funext p
    rw [hit_0, Bool.not_false, Bool.and_true]
  have pk : ∀ x, x < v.k → 2 ^ x < 2 ^ v.k := fun x hx => Nat.pow_lt_pow_right (by decide) hx
  have pk6 : ∀ x, x < v.k → 2 ^ x < 64 := fun x hx => by
    have := Nat.pow_lt_pow_right (a := 2) (by decide) (show x < 6 by omega)
    exact this
  have bit1 : ∀ x, cntB (2 ^ x).testBit 6 = cntB (fun i => decide (i = x)) 6 := fun x => cntB_congr fun i _ => by
    rw [Nat.testBit_two_pow]
    apply decide_eq_decide.mpr
    exact eq_comm
  have c0 : cntB (0 : Nat).testBit 6 = 0 := cnt0 fun i _ => Nat.zero_testBit i
  unfold View.mkFor
  by_cases hn : v.ndW L w = true
  · rw [if_pos hn]
    obtain ⟨p, -, p1, p2⟩ := anyR_iff.mp hn
    rw [Bool.and_eq_true, decide_eq_true_eq] at p2
    obtain ⟨hnd, ho⟩ := p2
    have hok : ∀ S, v.okS L w S = v.hit L S p := by
      intro S
      unfold View.okS
      have := nd_one W (by omega) ho (fun q => v.nd L q && !v.hit L S q)
      rw [show (fun p => v.nd L p && decide (v.own p = some w) && !v.hit L S p) = (fun q => v.nd L q && !v.hit L S q && decide (v.own q = some w)) from funext fun q => by rw [Bool.and_assoc, Bool.and_assoc, Bool.and_comm (decide _)], this, hnd, Bool.true_and, Bool.not_not]
    have hbad : v.badW L w = decide (mkB (v.can9 L p) v.k = 0) := by
      unfold View.badW
      rw [nd_one W (by omega) ho (v.bad L)]
      unfold View.bad
      rw [hnd, Bool.true_and]
    by_cases h9 : mkB (v.can9 L p) v.k = 0
    · rw [hbad, decide_eq_true h9, if_pos rfl]
      have h9 := (mk_eq_0 (by omega)).mp h9
      rcases h with ⟨h, -⟩ | ⟨S, s1, s2, s3, s4, s5⟩
      · exact h
      · exfalso
        unfold View.good at s3
        rw [Bool.and_eq_true, hok] at s3
        obtain ⟨x, -, x1, x2⟩ := anyR_iff.mp s3.2
        rw [Bool.and_eq_true, h9 x (by omega)] at x2
        cases x2.2
    · rw [hbad, decide_eq_false h9, if_neg (by decide)]
      have hx : ∃ x, x < v.k ∧ v.can9 L p x = true := by
        apply Classical.byContradiction
        intro hno
        refine h9 ((mk_eq_0 (by omega)).mpr fun i hi => ?_)
        cases hc : v.can9 L p i with
        | false => rfl
        | true => exact absurd ⟨i, hi, hc⟩ hno
      obtain ⟨x, x1, x2⟩ := hx
      have hxw : x ≠ w := by
        intro z
        subst z
        have hf : v.can9 L p x = false := by
          show v.lits L x p 9 (v.tp x) = false
          unfold View.lits
          split
          · rfl
          · split
            · rfl
            · split
              · rfl
              · first | rfl | rw [if_pos ho]
        rw [hf] at x2; cases x2
      have gx : v.good L w (2 ^ x) = true := by
        unfold View.good
        rw [hok, Nat.testBit_two_pow, decide_eq_false hxw, Bool.not_false, Bool.true_and]
        exact anyR_iff.mpr ⟨x, Nat.zero_le _, by omega, by rw [Nat.testBit_two_pow_self, x2]; rfl⟩
      rcases h with ⟨-, h⟩ | ⟨S, s1, s2, s3, s4, s5⟩
      · rw [h _ (pk6 x x1) (pk x x1)] at gx; cases gx
      · have l1 := s5 _ (pk6 x x1) (pk x x1) gx
        rw [bit1, cnt_one (by omega)] at l1
        have l2 : cntB S.testBit 6 ≠ 0 := by
          intro z
          have z := cnt_pos z
          unfold View.good at s3
          rw [Bool.and_eq_true, hok] at s3
          obtain ⟨y, -, y1, y2⟩ := anyR_iff.mp s3.2
          rw [Bool.and_eq_true, z y (by omega)] at y2
          cases y2.1
        rw [s4, show cntB S.testBit 6 = 1 by omega]
  · rw [if_neg hn]
    rw [Bool.not_eq_true] at hn
    rw [hn] at h0
    rcases h with ⟨-, h⟩ | ⟨S, s1, s2, s3, s4, s5⟩
    · rw [h 0 (by omega) (Nat.two_pow_pos _)] at h0; cases h0
    · have := s5 0 (by omega) (Nat.two_pow_pos _) h0
      rw [c0] at this
      rw [s4, show cntB S.testBit 6 = 0 by omega]
theorem m_madeFor (W : WF v) (M : SM (σ 400) v) (K : LT v.txt L) (hb : BO σ) {w : Nat} (hw : w < v.k) : ∃ σ2, X12_madeFor (nI w) σ = some (oI (v.mkFor L w), σ2) ∧ ML σ σ2 := by
  have h9 := W.n9
  have h6 := W.k6
  unfold X12_madeFor
  rw [show (0 : Int32) = nI 0 from rfl, show (-1 : Int32) = oI none from rfl]
  have pk6 : 2 ^ v.k ≤ 64 := Nat.pow_le_pow_right (n := 2) (by decide) h6
  have cbit : ∀ S, S < 64 → ∀ τ : Mem, X12_bits τ (nI S) = some (nI (cntB S.testBit 6)) := fun S hS τ => by rw [nI_mk (n := 6) (by omega) hS, m_bits (by omega)]
  have c6 : ∀ S : Nat, cntB S.testBit 6 ≤ 6 := fun S => cntB_le
  refine loop_P (L := fun f (a : Option Nat × Mem) i => X12_madeFor_4 f (nI w) (oI a.1) i a.2) (P := fun i a => ((a.1 = none ∧ ∀ S, S < i → S < 2 ^ v.k → v.good L w S = false) ∨ ∃ S, S < i ∧ S < 2 ^ v.k ∧ v.good L w S = true ∧ a.1 = some (cntB S.testBit 6) ∧ ∀ S2, S2 < i → S2 < 2 ^ v.k → v.good L w S2 = true → cntB S.testBit 6 ≤ cntB S2.testBit 6) ∧ ML σ a.2) (Q := fun r => ∃ σ2, r = some (oI (v.mkFor L w), σ2) ∧ ML σ σ2) (n := 64) (a := (none, σ)) (fun f a hP => ?_) (fun f a i hi hP => Or.inr ?_) (Nat.zero_le _) (FUb (by omega)) ⟨Or.inl ⟨rfl, fun S h => absurd h (by omega)⟩, ML.refl hb⟩
  · obtain ⟨p1, p2⟩ := hP
    refine ⟨a.2, ?_, p2⟩
    show X12_madeFor_4 (f + 1) (nI w) (oI a.1) (nI 64) a.2 = _
    rw [X12_madeFor_4, if_pos (show (64 : Int32) ≤ nI 64 by decide), best_is W hw p1]
  · obtain ⟨p1, p2⟩ := hP
    obtain ⟨b, τ⟩ := a
    simp only at p1 p2 ⊢
    have M1 := p2.sm M
    -- a set that doesn't do, or is no better
    have skip : ∀ ρ : Mem, ML σ ρ → (i < 2 ^ v.k → v.good L w i = true → ∃ c, b = some c ∧ c ≤ cntB i.testBit 6) → ∃ a' : Option Nat × Mem, X12_madeFor_4 f (nI w) (oI b) (nI (i + 1)) ρ = X12_madeFor_4 f (nI w) (oI a'.1) (nI (i + 1)) a'.2 ∧ ((a'.1 = none ∧ ∀ S, S < i + 1 → S < 2 ^ v.k → v.good L w S = false) ∨ ∃ S, S < i + 1 ∧ S < 2 ^ v.k ∧ v.good L w S = true ∧ a'.1 = some (cntB S.testBit 6) ∧ ∀ S2, S2 < i + 1 → S2 < 2 ^ v.k → v.good L w S2 = true → cntB S.testBit 6 ≤ cntB S2.testBit 6) ∧ ML σ a'.2 := by
      intro ρ hρ hg
      refine ⟨(b, ρ), rfl, ?_, hρ⟩
      rcases p1 with ⟨q1, q2⟩ | ⟨S, q1, q2, q3, q4, q5⟩
      · refine Or.inl ⟨q1, fun S s1 s2 => ?_⟩
        by_cases e : S = i
        · subst e
          cases hgg : v.good L w S with
          | false => rfl
          | true =>
            obtain ⟨c, c1, -⟩ := hg s2 hgg
            rw [q1] at c1; cases c1
        · exact q2 S (by omega) s2
      · refine Or.inr ⟨S, by omega, q2, q3, q4, fun S2 s1 s2 s3 => ?_⟩
        by_cases e : S2 = i
        · subst e
          obtain ⟨c, c1, c2⟩ := hg s2 s3
          rw [q4] at c1; cases c1; exact c2
        · exact q5 S2 (by omega) s2 s3
    rw [X12_madeFor_4, if_neg (show ¬ (64 : Int32) ≤ nI i from nI_ge (b := 64) (by omega) (by omega)), show (4 : Int32) = nI 4 from rfl, a_k M1, bd_s, show (1 : Int32) <<< (nI v.k &&& 31) = bitv v.k from rfl, bit_pow_ v.k (by omega), nI_1]
    by_cases ck : 2 ^ v.k ≤ i
    · rw [if_pos (nI_le ck (by omega))]
      exact skip τ p2 (fun h => absurd h (by omega))
    · rw [if_neg (nI_ge (by omega) (by omega)), e_isOf, hb_nI (by omega) (by omega), bd_s]
      cases hbw : i.testBit w with
      | true =>
        rw [if_neg (show ¬ b2i true = 0 by decide)]
        exact skip τ p2 (fun _ h => by unfold View.good at h; rw [hbw] at h; cases h)
      | false =>
        rw [if_pos (show b2i false = 0 from rfl)]
        have go : (∀ c, b = some c → cntB i.testBit 6 < c) → ∃ a' : Option Nat × Mem, X12_madeFor_46 (X12_madeFor_4 f) (nI w) (oI b) (nI i) τ = X12_madeFor_4 f (nI w) (oI a'.1) (nI (i + 1)) a'.2 ∧ ((a'.1 = none ∧ ∀ S, S < i + 1 → S < 2 ^ v.k → v.good L w S = false) ∨ ∃ S, S < i + 1 ∧ S < 2 ^ v.k ∧ v.good L w S = true ∧ a'.1 = some (cntB S.testBit 6) ∧ ∀ S2, S2 < i + 1 → S2 < 2 ^ v.k → v.good L w S2 = true → cntB S.testBit 6 ≤ cntB S2.testBit 6) ∧ ML σ a'.2 := by
          intro hlt
          obtain ⟨ρ, r1, r2⟩ := m_tryS W M1 K p2.1.2.2 hw (S := i) (by omega) (rc4 := X12_madeFor_4 f) (x2 := oI b)
          unfold X12_madeFor_46
          rw [r1]
          unfold X12_madeFor_174
          rw [nI_1]
          cases hok : v.okS L w i with
          | false =>
            rw [if_pos (show b2i false = 0 from rfl)]
            exact skip ρ (p2.trans r2) (fun _ h => by unfold View.good at h; rw [hok, Bool.and_false] at h; cases h)
          | true =>
            have hg : v.good L w i = true := by unfold View.good; rw [hbw, hok]; rfl
            rw [if_neg (show ¬ b2i true = 0 by decide), cbit i (by omega), bd_s]
            refine ⟨(some (cntB i.testBit 6), ρ), rfl, Or.inr ⟨i, by omega, by omega, hg, rfl, fun S2 s1 s2 s3 => ?_⟩, p2.trans r2⟩
            by_cases e : S2 = i
            · rw [e]; exact Nat.le_refl _
            · rcases p1 with ⟨q1, q2⟩ | ⟨S, q1, q2, q3, q4, q5⟩
              · rw [q2 S2 (by omega) s2] at s3; cases s3
              · have a1 := hlt _ q4
                have a2 := q5 S2 (by omega) s2 s3
                omega
        cases hbb : b with
        | none =>
          rw [if_pos (show oI none = -1 from rfl)]
          rw [hbb] at go
          exact go (fun c h => by cases h)
        | some c =>
          have hc6 : c ≤ 6 := by
            rcases p1 with ⟨q1, q2⟩ | ⟨S, q1, q2, q3, q4, q5⟩
            · rw [hbb] at q1; cases q1
            · rw [hbb] at q4; cases q4; exact c6 S
          have := c6 i
          rw [if_neg (show ¬ oI (some c) = -1 from nI_m1 (by omega)), cbit i (by omega), bd_s, oI_s]
          rw [hbb] at go skip
          by_cases cl : cntB i.testBit 6 < c
          · rw [if_pos (nI_lt cl (by omega))]
            exact go (fun c2 h => by cases h; exact cl)
          · rw [if_neg (nI_nlt (by omega) (by omega))]
            exact skip τ p2 (fun _ _ => ⟨c, rfl, by omega⟩)
/-- by walkers, and by panes -/
theorem made_sum (W : WF v) : cntB (v.ndW L) v.k = cntB (v.nd L) v.n := by
  have key : ∀ m, m ≤ v.n → cntB (fun w => anyR (fun p => v.nd L p && decide (v.own p = some w)) 0 m) v.k = cntB (v.nd L) m := by
    intro m
    induction m with
    | zero => intro _; exact cnt0 fun i _ => rfl
    | succ m ih =>
      intro hm
      have e : (fun w => anyR (fun p => v.nd L p && decide (v.own p = some w)) 0 (m + 1)) = fun w => anyR (fun p => v.nd L p && decide (v.own p = some w)) 0 m || (v.nd L m && decide (v.own m = some w)) := by
        funext w
        rw [anyR_app, Nat.zero_add]
      rw [e, cnt_or, ih (by omega), cntB]
      · congr 1
        cases hnd : v.nd L m with
        | false => rw [if_neg (by decide)]; exact cnt0 fun i _ => rfl
        | true =>
          rw [if_pos rfl]
          have : ∃ o, v.own m = some o := by
            unfold View.nd at hnd
            simp only [Bool.and_eq_true, decide_eq_true_eq] at hnd
            exact Option.ne_none_iff_exists'.mp hnd.1.2
          obtain ⟨o, ho⟩ := this
          have hok := W.own m o (by omega) ho
          rw [← cnt_one hok]
          apply cntB_congr
          intro i _
          rw [Bool.true_and, ho]
          apply decide_eq_decide.mpr
          exact ⟨fun h => by cases h; rfl, fun h => by rw [h]⟩
      · intro w _ h
        obtain ⟨p, -, p1, p2⟩ := anyR_iff.mp h
        rw [Bool.and_eq_true, decide_eq_true_eq] at p2
        by_cases c : v.own m = some w
        · have := W.one p m w (by omega) (by omega) p2.2 c
          omega
        · rw [decide_eq_false c, Bool.and_false]
  exact key v.n (Nat.le_refl _)
theorem bad_nd {w : Nat} (h : v.badW L w = true) : v.ndW L w = true := by
  obtain ⟨p, p0, p1, p2⟩ := anyR_iff.mp h
  unfold View.bad at p2
  simp only [Bool.and_eq_true] at p2
  exact anyR_iff.mpr ⟨p, p0, p1, by rw [p2.1.1, p2.2]; rfl⟩
theorem m_made (W : WF v) (M : SM (σ 400) v) (K : LT v.txt L) (hb : BO σ) : ∃ σ2, X12_madeUp_9 FU (nI 0) (nI 0) σ = some (v.made L, σ2) ∧ ML σ σ2 := by
  have h9 := W.n9
  have h6 := W.k6
  refine loop_P (L := fun f (a : Int32 × Mem) i => X12_madeUp_9 f a.1 i a.2) (P := fun i a => a.1 = nI (cntB (v.ndW L) i) ∧ (∀ w, w < i → v.badW L w = false) ∧ ML σ a.2) (Q := fun r => ∃ σ2, r = some (v.made L, σ2) ∧ ML σ σ2) (n := v.k) (a := (nI 0, σ)) (fun f a hP => ?_) (fun f a i hi hP => ?_) (Nat.zero_le _) (FUb (by omega)) ⟨rfl, fun w h => absurd h (by omega), ML.refl hb⟩
  · obtain ⟨p1, p2, p3⟩ := hP
    refine ⟨a.2, ?_, p3⟩
    show X12_madeUp_9 (f + 1) a.1 (nI v.k) a.2 = _
    rw [X12_madeUp_9, show (4 : Int32) = nI 4 from rfl, a_k (p3.sm M), bd_s, if_pos (nI_le (Nat.le_refl _) (by omega)), p1, made_sum W]
    unfold View.made
    rw [if_neg]
    intro z
    obtain ⟨p, -, q1, q2⟩ := anyR_iff.mp z
    have : ∃ o, v.own p = some o := by
      unfold View.bad View.nd at q2
      simp only [Bool.and_eq_true, decide_eq_true_eq] at q2
      exact Option.ne_none_iff_exists'.mp q2.1.1.2
    obtain ⟨o, ho⟩ := this
    have hb2 := p2 o (W.own p o (by omega) ho)
    rw [show v.badW L o = true from anyR_iff.mpr ⟨p, Nat.zero_le _, q1, by rw [q2, ho]; simp⟩] at hb2
    cases hb2
  · obtain ⟨p1, p2, p3⟩ := hP
    obtain ⟨c, τ⟩ := a
    simp only at p1 p2 p3 ⊢
    obtain ⟨ρ, r1, r2⟩ := m_madeFor W (p3.sm M) K p3.1.2.2 hi
    rw [X12_madeUp_9, show (4 : Int32) = nI 4 from rfl, a_k (p3.sm M), bd_s, if_neg (nI_ge hi (by omega)), r1, bd2_s, nI_1]
    cases hbad : v.badW L i with
    | true =>
      left
      have hf : v.mkFor L i = none := by unfold View.mkFor; rw [if_pos (bad_nd hbad), if_pos hbad]
      rw [hf, if_pos (show oI none = -1 from rfl)]
      refine ⟨ρ, ?_, p3.trans r2⟩
      obtain ⟨p, p0, q1, q2⟩ := anyR_iff.mp hbad
      rw [Bool.and_eq_true] at q2
      unfold View.made
      rw [if_pos (anyR_iff.mpr ⟨p, p0, q1, q2.1⟩)]
    | false =>
      right
      have hf : v.mkFor L i = some (if v.ndW L i = true then 1 else 0) := by
        unfold View.mkFor
        by_cases h : v.ndW L i = true
        · rw [if_pos h, if_neg (by rw [hbad]; decide), if_pos h]
        · rw [if_neg h, if_neg h]
      rw [hf, if_neg (show ¬ oI (some (if v.ndW L i = true then 1 else 0)) = -1 from nI_m1 (by split <;> omega)), oI_s]
      refine ⟨(c + nI (if v.ndW L i = true then 1 else 0), ρ), rfl, by rw [p1, nI_add, cntB], fun w hw => ?_, p3.trans r2⟩
      by_cases e : w = i
      · rw [e]; exact hbad
      · exact p2 w (by omega)
theorem r_28 {j : Nat} {x1 x2 x3 x4 x5 : Int32} (hC : Core (1000 * j) σ v L) (hR : Rest (1000 * j) σ v.txt) : ∃ σ3, lw_28 x1 x2 x3 x4 x5 σ = some (true, σ3) ∧ Inv (j + 1) σ3 := by
  obtain ⟨W, R, M, K, KT, Kl⟩ := id hC
  obtain ⟨τ, t1, t2⟩ := e_made W R K
  refine rrM (σ1 := τ) hC hR (r := v.made L) (t2.frc hR.2.2.2.2) ?_ (fun M2 hb => ?_)
  · unfold X11_madeUp; rw [t1, bd2_s]
  · obtain ⟨ρ, r1, r2⟩ := m_made W M2 KT hb
    unfold X12_madeUp
    rw [pu_s, bd_s]
    exact ⟨ρ, r1, r2.ok⟩
end MADE

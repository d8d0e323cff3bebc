/-! who can light, why one stays dark, whose turn -/
noncomputable def View.can (v : View) (L : Lw) (p w : Nat) : Bool := v.lits L w p (v.lo w p) (v.tp w)
noncomputable def View.can9 (v : View) (L : Lw) (p w : Nat) : Bool := v.lits L w p 9 (v.tp w)
noncomputable def View.why (v : View) (L : Lw) (p : Nat) : Int32 := if v.burn p = true ∨ v.own p = none then 0 else mkB (fun w => v.can L p w || v.can9 L p w) v.k
noncomputable def View.never (v : View) (L : Lw) (p : Nat) : Bool := !v.burn p && decide (mkB (v.can L p) v.k = 0)
noncomputable def View.paneOf (v : View) (w : Nat) : Option Nat := lowL (fun p => decide (v.own p = some w)) 0 v.n
noncomputable def View.trade (v : View) (L : Lw) (w p : Nat) : Bool := match v.own p with
  | none => false
  | some o => if o = w then false else match v.paneOf w with
    | none => false
    | some q => v.lits L w p (v.like w o) (v.tp w) && v.lits L o q (min 9 (v.like o w + 1)) (v.tp o)
noncomputable def View.nearer (v : View) (L : Lw) (w : Nat) (a : Option Nat) (p : Nat) : Option Nat := match v.far (v.pl w) p with
  | none => a
  | some d => if (a.elim true (fun x => decide (d < (v.far (v.pl w) x).getD 0)) && v.trade L w p) = true then some p else a
noncomputable def View.turnOf (v : View) (L : Lw) (w : Nat) : Option Nat := iterN (v.nearer L w) none v.n
def FL (σ τ : Mem) : Prop := ∀ c, c ≠ 82 → c ≠ 84 → τ c = σ c
section FAV
variable {σ : Mem} {v : View} {e : Nat} {L : Lw}
theorem own_m1 (W : WF v) {p : Nat} (hp : p < v.n) : (oI (v.own p) = -1) ↔ v.own p = none := own_on W hp
theorem FL.refl : FL σ σ := fun _ _ _ => rfl
theorem FL.trans {τ ρ : Mem} (h : FL σ τ) (h2 : FL τ ρ) : FL σ ρ := fun c a b => by rw [h2 c a b, h c a b]
theorem FL.sc {τ : Mem} (h : FL σ τ) (R : SC σ 9 v e) : SC τ 9 v e := R.move fun c h1 h2 => h c (by omega) (by omega)
theorem FL.lc {τ : Mem} (h : FL σ τ) (K : LC σ 72 L) : LC τ 72 L := K.move fun c h1 h2 => h c (by omega) (by omega)
theorem FL.frc {τ : Mem} (h : FL σ τ) (hM : Mis σ) : FrC σ τ := FrC.of hM fun c h1 h2 _ _ _ => h c h1 h2
theorem e_lets (W : WF v) (R : SC σ 9 v e) (K : LC σ 72 L) {w p likes taper : Nat} (hw : w < v.k) (hp : p < v.n) (ht : taper < 2 ^ 31) : ∃ σ2, X3_letsLight 72 9 (nI w) (nI p) (nI likes) (nI taper) σ = some (b2i (v.lits L w p likes taper), σ2) ∧ FL σ σ2 :=
  e_letsLight kd9' rfl (Or.inl (by decide)) W R K hw hp ht
theorem e_can (W : WF v) (R : SC σ 9 v e) (K : LC σ 72 L) {p : Nat} (hp : p < v.n) : ∃ σ2, X1_canLight 9 72 (nI p) σ = some (mkB (v.can L p) v.k, σ2) ∧ FL σ σ2 := by
  have h6 := W.k6
  unfold X1_canLight
  rw [show (0 : Int32) = nI 0 from rfl]
  refine loop_P (L := fun f (a : Int32 × Mem) i => X1_canLight_6 f 9 72 (nI p) a.1 i a.2) (P := fun i a => a.1 = upTo (v.can L p) v.k i ∧ FL σ a.2) (Q := fun r => ∃ σ2, r = some (mkB (v.can L p) v.k, σ2) ∧ FL σ σ2) (n := v.k) (a := (nI 0, σ)) (fun f a hP => ?_) (fun f a i hi hP => Or.inr ?_) (Nat.zero_le _) (FUb (by omega)) ⟨(upTo_0 (by omega)).symm, FL.refl⟩
  · obtain ⟨p1, p2⟩ := hP
    refine ⟨a.2, ?_, p2⟩
    show X1_canLight_6 (f + 1) 9 72 (nI p) a.1 (nI v.k) a.2 = _
    rw [X1_canLight_6, (p2.sc R).k, if_pos (nI_le (Nat.le_refl _) (by omega)), p1, upTo_n]
  · obtain ⟨p1, p2⟩ := hP
    obtain ⟨c, τ⟩ := a
    simp only at p1 p2 ⊢
    have R1 := p2.sc R
    have htp := W.tp i hi
    obtain ⟨ρ, r1, r2⟩ := e_lets W R1 (p2.lc K) (likes := v.lo i p) hi hp (taper := v.tp i) (by omega)
    rw [X1_canLight_6, R1.k, if_neg (nI_ge hi (by omega)), e_likesFor kd9' W R1 hi hp, bd_s, g_tp kd9' W R1 hi, bd_s, r1, bd2_s, nI_1]
    refine ⟨(upTo (v.can L p) v.k (i + 1), ρ), ?_, rfl, p2.trans r2⟩
    rw [upTo_s (by omega) hi]
    unfold View.can at p1 ⊢
    cases hl : v.lits L i p (v.lo i p) (v.tp i) with
    | false => rw [if_pos (show b2i false = 0 from rfl), if_neg (by decide), p1]
    | true => rw [if_neg (show ¬ b2i true = 0 by decide), if_pos rfl, e_bit, bd_s, p1]
theorem e_why (W : WF v) (R : SC σ 9 v e) (K : LC σ 72 L) {p : Nat} (hp : p < v.n) : ∃ σ2, X1_whyDark 9 72 (nI p) σ = some (v.why L p, σ2) ∧ FL σ σ2 := by
  have h6 := W.k6
  unfold X1_whyDark View.why
  rw [e_isBurning W R hp, bd_s]
  cases hb : v.burn p with
  | true => rw [if_neg (show ¬ b2i true = 0 by decide), if_pos (Or.inl rfl)]; exact ⟨σ, rfl, FL.refl⟩
  | false =>
    rw [if_pos (show b2i false = 0 from rfl), g_own kd9' W R hp, bd_s]
    by_cases c0 : v.own p = none
    · rw [if_pos ((own_m1 W hp).mpr c0), if_pos (Or.inr c0)]; exact ⟨σ, rfl, FL.refl⟩
    · rw [if_neg (fun z => c0 ((own_m1 W hp).mp z)), if_neg (by rintro (z | z); cases z; exact c0 z)]
      obtain ⟨τ0, t1, t2⟩ := e_can W R K hp
      rw [t1, bd2_s, show (0 : Int32) = nI 0 from rfl]
      refine loop_P (L := fun f (a : Int32 × Mem) i => X1_whyDark_34 f 9 72 (nI p) a.1 i a.2) (P := fun i a => a.1 = mkB (v.can L p) v.k ||| upTo (v.can9 L p) v.k i ∧ FL σ a.2) (Q := fun r => ∃ σ2, r = some (mkB (fun w => v.can L p w || v.can9 L p w) v.k, σ2) ∧ FL σ σ2) (n := v.k) (a := (mkB (v.can L p) v.k, τ0)) (fun f a hP => ?_) (fun f a i hi hP => Or.inr ?_) (Nat.zero_le _) (FUb (by omega)) ⟨by rw [upTo_0 (by omega), or_0], t2⟩
      · obtain ⟨p1, p2⟩ := hP
        refine ⟨a.2, ?_, p2⟩
        show X1_whyDark_34 (f + 1) 9 72 (nI p) a.1 (nI v.k) a.2 = _
        rw [X1_whyDark_34, (p2.sc R).k, if_pos (nI_le (Nat.le_refl _) (by omega)), p1, upTo_n, mk_or (by omega)]
      · obtain ⟨p1, p2⟩ := hP
        obtain ⟨c, τ⟩ := a
        simp only at p1 p2 ⊢
        have R1 := p2.sc R
        have htp := W.tp i hi
        obtain ⟨ρ, r1, r2⟩ := e_lets W R1 (p2.lc K) (likes := 9) hi hp (taper := v.tp i) (by omega)
        rw [X1_whyDark_34, R1.k, if_neg (nI_ge hi (by omega)), g_tp kd9' W R1 hi, bd_s, show (9 : Int32) = nI 9 from rfl, r1, bd2_s, nI_1]
        refine ⟨(mkB (v.can L p) v.k ||| upTo (v.can9 L p) v.k (i + 1), ρ), ?_, rfl, p2.trans r2⟩
        rw [upTo_s (by omega) hi]
        have hu : v.can9 L p i = v.lits L i p 9 (v.tp i) := rfl
        rw [hu]
        cases hl : v.lits L i p 9 (v.tp i) with
        | false => rw [if_pos (show b2i false = 0 from rfl), if_neg (by decide), p1]
        | true => rw [if_neg (show ¬ b2i true = 0 by decide), if_pos rfl, e_bit, bd_s, p1, Int32.or_assoc]
theorem e_never (W : WF v) (R : SC σ 9 v e) (K : LC σ 72 L) : ∃ σ2, X1_neverLit 9 72 σ = some (mkB (v.never L) v.n, σ2) ∧ FL σ σ2 := by
  have h9 := W.n9
  unfold X1_neverLit
  rw [show (0 : Int32) = nI 0 from rfl]
  refine loop_P (L := fun f (a : Int32 × Mem) i => X1_neverLit_5 f 9 72 a.1 i a.2) (P := fun i a => a.1 = upTo (v.never L) v.n i ∧ FL σ a.2) (Q := fun r => ∃ σ2, r = some (mkB (v.never L) v.n, σ2) ∧ FL σ σ2) (n := v.n) (a := (nI 0, σ)) (fun f a hP => ?_) (fun f a i hi hP => Or.inr ?_) (Nat.zero_le _) (FUb (by omega)) ⟨(upTo_0 (by omega)).symm, FL.refl⟩
  · obtain ⟨p1, p2⟩ := hP
    refine ⟨a.2, ?_, p2⟩
    show X1_neverLit_5 (f + 1) 9 72 a.1 (nI v.n) a.2 = _
    rw [X1_neverLit_5, (p2.sc R).n, if_pos (nI_le (Nat.le_refl _) (by omega)), p1, upTo_n]
  · obtain ⟨p1, p2⟩ := hP
    obtain ⟨c, τ⟩ := a
    simp only at p1 p2 ⊢
    have R1 := p2.sc R
    rw [X1_neverLit_5, R1.n, if_neg (nI_ge hi (by omega)), e_isBurning W R1 hi, bd_s, nI_1]
    rw [upTo_s (by omega) hi]
    have hu : v.never L i = (!v.burn i && decide (mkB (v.can L i) v.k = 0)) := rfl
    rw [hu]
    cases hb : v.burn i with
    | true => rw [if_neg (show ¬ b2i true = 0 by decide), Bool.not_true, Bool.false_and, if_neg (by decide)]; exact ⟨(c, τ), rfl, p1, p2⟩
    | false =>
      rw [if_pos (show b2i false = 0 from rfl), Bool.not_false, Bool.true_and]
      obtain ⟨ρ, r1, r2⟩ := e_can W R1 (p2.lc K) hi
      rw [r1, bd2_s]
      by_cases h0 : mkB (v.can L i) v.k = 0
      · rw [if_pos h0, decide_eq_true h0, if_pos rfl, e_bit, bd_s]; exact ⟨(c ||| bitv i, ρ), rfl, by rw [p1], p2.trans r2⟩
      · rw [if_neg h0, decide_eq_false h0, if_neg (by decide)]; exact ⟨(c, ρ), rfl, p1, p2.trans r2⟩
/-! the reference -/
def ML (σ τ : Mem) : Prop := MF σ τ ∧ τ 400 = σ 400
theorem ML.refl (hb : BO σ) : ML σ σ := ⟨MF.refl hb, rfl⟩
theorem ML.trans {τ ρ : Mem} (h : ML σ τ) (h2 : ML τ ρ) : ML σ ρ := ⟨h.1.trans h2.1, h2.2.trans h.2⟩
theorem ML.sm {τ : Mem} (h : ML σ τ) (M : SM (σ 400) v) : SM (τ 400) v := by rw [h.2]; exact M
theorem m_lighters (W : WF v) (M : SM (σ 400) v) (K : LT v.txt L) (hb : BO σ) {p : Nat} (hp : p < v.n) {b9 : Bool} : ∃ σ2, X12_lighters (nI p) (b2i b9) σ = some (mkB (fun w => v.can L p w || (b9 && decide (v.own p ≠ none) && v.can9 L p w)) v.k, σ2) ∧ ML σ σ2 := by
  have h6 := W.k6
  have h9 := W.n9
  unfold X12_lighters
  rw [show (0 : Int32) = nI 0 from rfl]
  generalize hg : (fun w => v.can L p w || (b9 && decide (v.own p ≠ none) && v.can9 L p w)) = g
  refine loop_P (L := fun f (a : Int32 × Mem) i => X12_lighters_5 f (nI p) (b2i b9) a.1 i a.2) (P := fun i a => a.1 = upTo g v.k i ∧ ML σ a.2) (Q := fun r => ∃ σ2, r = some (mkB g v.k, σ2) ∧ ML σ σ2) (n := v.k) (a := (nI 0, σ)) (fun f a hP => ?_) (fun f a i hi hP => Or.inr ?_) (Nat.zero_le _) (FUb (by omega)) ⟨(upTo_0 (by omega)).symm, ML.refl hb⟩
  · obtain ⟨p1, p2⟩ := hP
    refine ⟨a.2, ?_, p2⟩
    show X12_lighters_5 (f + 1) (nI p) (b2i b9) a.1 (nI v.k) a.2 = _
    rw [X12_lighters_5, show (4 : Int32) = nI 4 from rfl, a_k (p2.sm M), bd_s, if_pos (nI_le (Nat.le_refl _) (by omega)), p1, upTo_n]
  · obtain ⟨p1, p2⟩ := hP
    obtain ⟨c, τ⟩ := a
    simp only at p1 p2 ⊢
    have M1 := p2.sm M
    obtain ⟨ρ, r1, r2, r3⟩ := m_doesLight W M1 K p2.1.2.2 (w := i) hi hp
    have p3 : ML σ ρ := p2.trans ⟨r2, r3⟩
    have M2 := p3.sm M
    rw [X12_lighters_5, show (4 : Int32) = nI 4 from rfl, a_k M1, bd_s, if_neg (nI_ge hi (by omega)), r1, bd2_s]
    have gi : g i = (v.can L p i || (b9 && decide (v.own p ≠ none) && v.can9 L p i)) := by rw [← hg]
    have hcan : v.can L p i = v.lits L i p (v.lo i p) (v.tp i) := rfl
    have yes : ∀ ρ2, ML σ ρ2 → g i = true → ∃ a' : Int32 × Mem, X12_lighters_53 (X12_lighters_5 f) (nI p) (b2i b9) (nI i) c ρ2 = X12_lighters_5 f (nI p) (b2i b9) a'.1 (nI (i + 1)) a'.2 ∧ a'.1 = upTo g v.k (i + 1) ∧ ML σ a'.2 := by
      intro ρ2 h1 h2
      unfold X12_lighters_53 X12_lighters_61
      refine ⟨(upTo g v.k (i + 1), ρ2), ?_, rfl, h1⟩
      rw [upTo_s (by omega) hi, if_pos h2, nI_1, p1]
      rfl
    have no : ∀ ρ2, ML σ ρ2 → g i = false → ∃ a' : Int32 × Mem, X12_lighters_60 (X12_lighters_5 f) (nI p) (b2i b9) (nI i) c ρ2 = X12_lighters_5 f (nI p) (b2i b9) a'.1 (nI (i + 1)) a'.2 ∧ a'.1 = upTo g v.k (i + 1) ∧ ML σ a'.2 := by
      intro ρ2 h1 h2
      unfold X12_lighters_60 X12_lighters_61
      refine ⟨(upTo g v.k (i + 1), ρ2), ?_, rfl, h1⟩
      rw [upTo_s (by omega) hi, if_neg (by rw [h2]; decide), nI_1, p1, show (0 : Int32) = nI 0 from rfl, or_0]
    cases hl : v.lits L i p (v.lo i p) (v.tp i) with
    | true => rw [if_neg (show ¬ b2i true = 0 by decide)]; exact yes ρ p3 (by rw [gi, hcan, hl]; rfl)
    | false =>
      rw [if_pos (show b2i false = 0 from rfl)]
      cases hb9 : b9 with
      | false => subst hb9; rw [if_pos (show b2i false = 0 from rfl)]; exact no ρ p3 (by rw [gi, hcan, hl]; rfl)
      | true =>
        subst hb9
        rw [if_neg (show ¬ b2i true = 0 by decide), show (2 : Int32) = nI 2 from rfl, o_own W M2 hp, bd_s]
        by_cases c0 : v.own p = none
        · rw [if_pos ((own_m1 W hp).mpr c0)]; exact no ρ p3 (by rw [gi, hcan, hl]; simp [c0])
        · rw [if_neg (fun z => c0 ((own_m1 W hp).mp z))]
          obtain ⟨ρ2, s1, s2, s3⟩ := m_wouldLight W M2 K p3.1.2.2 (w := i) (likes := 9) hi hp
          rw [show (9 : Int32) = nI 9 from rfl, s1, bd2_s]
          have p4 : ML σ ρ2 := p3.trans ⟨s2, s3⟩
          have h99 : v.can9 L p i = v.lits L i p 9 (v.tp i) := rfl
          cases hl2 : v.lits L i p 9 (v.tp i) with
          | true => rw [if_neg (show ¬ b2i true = 0 by decide)]; exact yes ρ2 p4 (by rw [gi, h99, hl2]; simp [c0])
          | false => rw [if_pos (show b2i false = 0 from rfl)]; exact no ρ2 p4 (by rw [gi, hcan, hl, h99, hl2]; simp)
theorem m_lighters0 (W : WF v) (M : SM (σ 400) v) (K : LT v.txt L) (hb : BO σ) {p : Nat} (hp : p < v.n) : ∃ σ2, X12_lighters (nI p) 0 σ = some (mkB (v.can L p) v.k, σ2) ∧ ML σ σ2 := by
  have := m_lighters W M K hb hp (b9 := false)
  simp only [Bool.false_and, Bool.or_false] at this
  exact this
theorem m_never (W : WF v) (M : SM (σ 400) v) (K : LT v.txt L) (hb : BO σ) : ∃ σ2, X12_never_9 FU (nI 0) (nI 0) σ = some (mkB (v.never L) v.n, σ2) ∧ ML σ σ2 := by
  have h9 := W.n9
  refine loop_P (L := fun f (a : Int32 × Mem) i => X12_never_9 f a.1 i a.2) (P := fun i a => a.1 = upTo (v.never L) v.n i ∧ ML σ a.2) (Q := fun r => ∃ σ2, r = some (mkB (v.never L) v.n, σ2) ∧ ML σ σ2) (n := v.n) (a := (nI 0, σ)) (fun f a hP => ?_) (fun f a i hi hP => Or.inr ?_) (Nat.zero_le _) (FUb (by omega)) ⟨(upTo_0 (by omega)).symm, ML.refl hb⟩
  · obtain ⟨p1, p2⟩ := hP
    refine ⟨a.2, ?_, p2⟩
    show X12_never_9 (f + 1) a.1 (nI v.n) a.2 = _
    rw [X12_never_9, show (3 : Int32) = nI 3 from rfl, a_n (p2.sm M), bd_s, if_pos (nI_le (Nat.le_refl _) (by omega)), p1, upTo_n]
  · obtain ⟨p1, p2⟩ := hP
    obtain ⟨c, τ⟩ := a
    simp only at p1 p2 ⊢
    have M1 := p2.sm M
    rw [X12_never_9, show (3 : Int32) = nI 3 from rfl, a_n M1, bd_s, if_neg (nI_ge hi (by omega)), show (1 : Int32) = nI 1 from rfl, o_burn W M1 hi, bd_s]
    rw [upTo_s (by omega) hi]
    have hu : v.never L i = (!v.burn i && decide (mkB (v.can L i) v.k = 0)) := rfl
    rw [hu]
    have no : ∀ ρ2 : Mem, ∃ a' : Int32 × Mem, X12_never_44 (X12_never_9 f) (nI i) c ρ2 = X12_never_9 f a'.1 (nI (i + 1)) a'.2 ∧ a'.1 = c ∧ a'.2 = ρ2 := by
      intro ρ2
      unfold X12_never_44 X12_never_45
      exact ⟨(c, ρ2), by rw [nI_1, show (0 : Int32) = nI 0 from rfl, or_0], rfl, rfl⟩
    cases hbn : v.burn i with
    | true =>
      rw [if_neg (show ¬ b2i true = 0 by decide), Bool.not_true, Bool.false_and, if_neg (by decide)]
      obtain ⟨a', e1, e2, e3⟩ := no τ
      exact ⟨a', e1, by rw [e2, p1], by rw [e3]; exact p2⟩
    | false =>
      rw [if_pos (show b2i false = 0 from rfl), Bool.not_false, Bool.true_and]
      obtain ⟨ρ, r1, r2⟩ := m_lighters0 W M1 K p2.1.2.2 hi
      rw [r1, bd2_s]
      by_cases h0 : mkB (v.can L i) v.k = 0
      · rw [if_pos h0, decide_eq_true h0, if_pos rfl]
        unfold X12_never_45
        exact ⟨(c ||| bitv i, ρ), by rw [nI_1]; rfl, by rw [p1], p2.trans r2⟩
      · rw [if_neg h0, decide_eq_false h0, if_neg (by decide)]
        obtain ⟨a', e1, e2, e3⟩ := no ρ
        exact ⟨a', e1, by rw [e2, p1], by rw [e3]; exact p2.trans r2⟩
end FAV

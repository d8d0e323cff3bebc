/-! the reference: conditions, lines, the whole law -/
section MREAD
variable {σ : Mem} {b : Nat → Int32} {T : Nat} {F : Nat → Int32}
theorem and_b {u w : Bool} : b2i u &&& b2i w = b2i (u && w) := by cases u <;> cases w <;> decide
theorem or_b {u w : Bool} : b2i u ||| b2i w = b2i (u || w) := by cases u <;> cases w <;> decide
theorem not_b {u : Bool} : 1 - b2i u = b2i (!u) := by cases u <;> decide
theorem m_evL {A : Nat → PR (List Int32)} {rf : Mem → Option (Int32 × Mem)} {m d x : Nat} (hL : LetR σ b T) (h0 : σ 399 12 = oI none) (gA : ∀ p, p ≤ T → GdR b T m p (A p)) (hA : ∀ a p, a ≤ T → skp b T a = p → MB σ b T d F x (rf (PA σ a d)) (A p)) : ∀ (f fuel q a : Nat) (c : List Int32) (v : Bool), T < q + f → T < q + fuel → a ≤ T → skp b T a = q → (∀ s, runC F c s = b2i v :: s) → MB σ b T d F x (oX12_every_5 rf fuel (b2i v) (PA σ a d)) (lpEvL b T A f c q) := by
  have hT := hL.1
  intro f
  induction f with
  | zero => intro fuel q a c v h1 h2 ha hq hc; have := skp_le (b := b) ha; omega
  | succ f ih =>
    intro fuel q a c v h1 h2 ha hq hc
    have hle := skp_le (b := b) ha
    obtain ⟨fuel, rfl⟩ : ∃ z, fuel = z + 1 := ⟨fuel - 1, by omega⟩
    rw [oX12_every_5, if_pos ((pa_f h0).mpr trivial), m_has hL ha hq (s := 28) (by omega) (by omega)]
    unfold lpEvL
    by_cases c1 : term b T q = 31
    · have hl := term_lt (b := b) (T := T) (p := q) (by omega)
      have hn := nx_gt (b := b) hl
      rw [if_pos c1, if_pos c1, bd2_s, if_neg (show ¬ nI 1 = 0 by decide)]
      have hm := hA (tEnd b T q) (nx b T q) (tEnd_le hl).2 rfl
      have g := gA (nx b T q) hn.2
      have next : ∀ (v2 : Bool) (τ : Mem), (if b2i v = 0 then oX12_every_39 rf (oX12_every_5 rf fuel) τ else if b2i v2 = 0 then oX12_every_39 rf (oX12_every_5 rf fuel) τ else oX12_every_40 rf (oX12_every_5 rf fuel) 1 τ) = oX12_every_5 rf fuel (b2i (v && v2)) τ := by
        intro v2 τ
        cases v <;> cases v2 <;> rfl
      cases hr : (A (nx b T q)).2 with
      | none =>
        obtain ⟨v2, σ2, e2, f2⟩ := hm.2 hr
        unfold prB
        rw [hr, e2, bd2_s, next]
        refine ⟨fun c e => (nomatch e), fun _ => ⟨v && v2, σ2, ?_, f2⟩⟩
        obtain ⟨fuel, rfl⟩ : ∃ z, fuel = z + 1 := ⟨fuel - 1, by omega⟩
        have := f2.is (by have := g.1; omega)
        rw [oX12_every_5, if_neg (fun q => this.mp q), gb_b, bd_s]
      | some c2 =>
        obtain ⟨v2, a2, e2, e3, e4, e5⟩ := hm.1 c2 hr
        have g := g.2 c2 hr
        unfold prB
        rw [hr, e2, bd2_s, next]
        refine ih fuel _ a2 _ (v && v2) (by omega) (by omega) e3 e4 (fun s => ?_)
        rw [runC_app, runC_app, hc, e5, runC_2 (by decide) (by decide)]
        show (b2i v &&& b2i v2) :: s = _
        rw [and_b]
    · rw [if_neg c1, if_neg c1, bd2_s, if_pos (show nI 0 = 0 from rfl), gb_b, bd_s]
      refine ⟨fun c2 e => ?_, fun e => nomatch e⟩
      cases e
      exact ⟨v, q, rfl, by omega, by rw [← hq, skp_id ha], hc⟩
theorem m_ev {A : Nat → PR (List Int32)} {rf : Mem → Option (Int32 × Mem)} {m d x : Nat} (hL : LetR σ b T) (h0 : σ 399 12 = oI none) (gA : ∀ p, p ≤ T → GdR b T m p (A p)) (hA : ∀ a p, a ≤ T → skp b T a = p → MB σ b T d F x (rf (PA σ a d)) (A p)) (a p : Nat) (ha : a ≤ T) (hp : skp b T a = p) : MB σ b T d F x (oX12_every rf (PA σ a d)) (lpEv b T A p) := by
  have hT := hL.1
  have hle := skp_le (b := b) ha
  have hm := hA a p ha hp
  have g := gA p (by omega)
  unfold oX12_every lpEv
  cases hr : (A p).2 with
  | none =>
    obtain ⟨v2, σ2, e2, f2⟩ := hm.2 hr
    unfold prB
    rw [hr, e2, bd2_s]
    refine ⟨fun c e => (nomatch e), fun _ => ⟨v2, σ2, ?_, f2⟩⟩
    have := f2.is (by have := g.1; omega)
    obtain ⟨fu, hfu⟩ : ∃ z, FU = z + 1 := ⟨99999, rfl⟩
    rw [hfu, oX12_every_5, if_neg (fun q => this.mp q), gb_b, bd_s]
  | some c2 =>
    obtain ⟨v2, a2, e2, e3, e4, e5⟩ := hm.1 c2 hr
    have g := g.2 c2 hr
    unfold prB
    rw [hr, e2, bd2_s]
    exact m_evL hL h0 gA hA 400 FU _ a2 c2 v2 (by omega) (by show T < _ + 100000; omega) e3 e4 e5
theorem m_soL {A : Nat → PR (List Int32)} {rf : Mem → Option (Int32 × Mem)} {m d x : Nat} (hL : LetR σ b T) (h0 : σ 399 12 = oI none) (gA : ∀ p, p ≤ T → GdR b T m p (lpEv b T A p)) (hA : ∀ a p, a ≤ T → skp b T a = p → MB σ b T d F x (rf (PA σ a d)) (lpEv b T A p)) : ∀ (f fuel q a : Nat) (c : List Int32) (v : Bool), T < q + f → T < q + fuel → a ≤ T → skp b T a = q → (∀ s, runC F c s = b2i v :: s) → MB σ b T d F x (oX12_some_5 rf fuel (b2i v) (PA σ a d)) (lpSoL b T A f c q) := by
  have hT := hL.1
  intro f
  induction f with
  | zero => intro fuel q a c v h1 h2 ha hq hc; have := skp_le (b := b) ha; omega
  | succ f ih =>
    intro fuel q a c v h1 h2 ha hq hc
    have hle := skp_le (b := b) ha
    obtain ⟨fuel, rfl⟩ : ∃ z, fuel = z + 1 := ⟨fuel - 1, by omega⟩
    rw [oX12_some_5, if_pos ((pa_f h0).mpr trivial), m_has hL ha hq (s := 29) (by omega) (by omega)]
    unfold lpSoL
    by_cases c1 : term b T q = 32
    · have hl := term_lt (b := b) (T := T) (p := q) (by omega)
      have hn := nx_gt (b := b) hl
      rw [if_pos c1, if_pos c1, bd2_s, if_neg (show ¬ nI 1 = 0 by decide)]
      have hm := hA (tEnd b T q) (nx b T q) (tEnd_le hl).2 rfl
      have g := gA (nx b T q) hn.2
      have next : ∀ (v2 : Bool) (τ : Mem), (if b2i v = 0 then if b2i v2 = 0 then oX12_some_40 rf (oX12_some_5 rf fuel) 0 τ else oX12_some_35 rf (oX12_some_5 rf fuel) τ else oX12_some_35 rf (oX12_some_5 rf fuel) τ) = oX12_some_5 rf fuel (b2i (v || v2)) τ := by
        intro v2 τ
        cases v <;> cases v2 <;> rfl
      cases hr : (lpEv b T A (nx b T q)).2 with
      | none =>
        obtain ⟨v2, σ2, e2, f2⟩ := hm.2 hr
        unfold prB
        rw [hr, e2, bd2_s, next]
        refine ⟨fun c e => (nomatch e), fun _ => ⟨v || v2, σ2, ?_, f2⟩⟩
        obtain ⟨fuel, rfl⟩ : ∃ z, fuel = z + 1 := ⟨fuel - 1, by omega⟩
        have := f2.is (by have := g.1; omega)
        rw [oX12_some_5, if_neg (fun q => this.mp q), gb_b, bd_s]
      | some c2 =>
        obtain ⟨v2, a2, e2, e3, e4, e5⟩ := hm.1 c2 hr
        have g := g.2 c2 hr
        unfold prB
        rw [hr, e2, bd2_s, next]
        refine ih fuel _ a2 _ (v || v2) (by omega) (by omega) e3 e4 (fun s => ?_)
        rw [runC_app, runC_app, hc, e5, runC_2 (by decide) (by decide)]
        show (b2i v ||| b2i v2) :: s = _
        rw [or_b]
    · rw [if_neg c1, if_neg c1, bd2_s, if_pos (show nI 0 = 0 from rfl), gb_b, bd_s]
      refine ⟨fun c2 e => ?_, fun e => nomatch e⟩
      cases e
      exact ⟨v, q, rfl, by omega, by rw [← hq, skp_id ha], hc⟩
theorem m_so {A : Nat → PR (List Int32)} {rf : Mem → Option (Int32 × Mem)} {m d x : Nat} (hL : LetR σ b T) (h0 : σ 399 12 = oI none) (gA : ∀ p, p ≤ T → GdR b T m p (lpEv b T A p)) (hA : ∀ a p, a ≤ T → skp b T a = p → MB σ b T d F x (rf (PA σ a d)) (lpEv b T A p)) (a p : Nat) (ha : a ≤ T) (hp : skp b T a = p) : MB σ b T d F x (oX12_some rf (PA σ a d)) (lpSo b T A p) := by
  have hT := hL.1
  have hle := skp_le (b := b) ha
  have hm := hA a p ha hp
  have g := gA p (by omega)
  unfold oX12_some lpSo
  cases hr : (lpEv b T A p).2 with
  | none =>
    obtain ⟨v2, σ2, e2, f2⟩ := hm.2 hr
    unfold prB
    rw [hr, e2, bd2_s]
    refine ⟨fun c e => (nomatch e), fun _ => ⟨v2, σ2, ?_, f2⟩⟩
    have := f2.is (by have := g.1; omega)
    obtain ⟨fu, hfu⟩ : ∃ z, FU = z + 1 := ⟨99999, rfl⟩
    rw [hfu, oX12_some_5, if_neg (fun q => this.mp q), gb_b, bd_s]
  | some c2 =>
    obtain ⟨v2, a2, e2, e3, e4, e5⟩ := hm.1 c2 hr
    have g := g.2 c2 hr
    unfold prB
    rw [hr, e2, bd2_s]
    exact m_soL hL h0 gA hA 400 FU _ a2 c2 v2 (by omega) (by show T < _ + 100000; omega) e3 e4 e5
theorem m_cnd {D k d : Nat} (hL : LetR σ b T) (h0 : σ 399 12 = oI none) (hA : ∀ a p, a ≤ T → skp b T a = p → MB σ b T d F (T + D) ((rc12 k).1 (PA σ a d)) (lpAtom b T D p)) (a p : Nat) (ha : a ≤ T) (hp : skp b T a = p) : MB σ b T d F (T + D) ((rc12 (k + 2)).2.2 (PA σ a d)) (lpSo b T (lpAtom b T D) p) :=
  m_so hL h0 (fun p hp => g_ev (g_atom D) hp) (m_ev hL h0 (g_atom D) hA) a p ha hp
theorem m_atom (hL : LetR σ b T) (h0 : σ 399 12 = oI none) (hF : FM σ F) : ∀ (D k d : Nat), 3 * D + 1 ≤ k → d + D = 6 → ∀ (a p : Nat), a ≤ T → skp b T a = p → MB σ b T d F (T + D) ((rc12 k).1 (PA σ a d)) (lpAtom b T D p) := by
  have hT := hL.1
  intro D
  induction D with
  | zero =>
    intro k d hk hd a p ha hp
    obtain ⟨k, rfl⟩ : ∃ z, k = z + 1 := ⟨k - 1, by omega⟩
    have hle := skp_le (b := b) ha
    have hpp : skp b T p = p := by rw [← hp, skp_id ha]
    show MB σ b T d F (T + 0) (oX12_atom (rc12 k).1 (rc12 k).2.2 (PA σ a d)) _
    have deep : ∀ (q : Nat) (y : Int32), q ≤ T → oX12_atom_40 (rc12 k).1 (rc12 k).2.2 (nI p) y (PA σ q d) = some (b2i false, st (PA σ q d) 399 12 (nI p)) := by
      intro q y hq
      unfold oX12_atom_40
      rw [pa_d, if_pos (show nI d = 6 by rw [show d = 6 by omega]; rfl), m_wrong (by rw [pa_o (by decide) (by decide)]; exact h0), bd_s]
      rfl
    unfold oX12_atom lpAtom
    rw [if_pos ((pa_f h0).mpr trivial), m_here hL ha, hp, bd2_s, m_has hL (by omega) hpp (s := 27) (by omega) (by omega)]
    by_cases c1 : term b T p = 30
    · have hl := term_lt (b := b) (T := T) (p := p) (by omega)
      rw [if_pos c1, bd2_s, if_neg (show ¬ nI 1 = 0 by decide), if_pos (Or.inl c1), deep _ _ (tEnd_le hl).2]
      exact ⟨fun c e => (nomatch e), fun _ => ⟨false, _, rfl, flt_new (tEnd_le hl).2⟩⟩
    · rw [if_neg c1, bd2_s, if_pos (show nI 0 = 0 from rfl), m_sign hL (by omega) hpp (s := 2) (by simp), bd2_s]
      by_cases c2 : term b T p = 5
      · rw [decide_eq_true c2, if_neg (show ¬ b2i true = 0 by decide), if_pos (Or.inr c2), deep _ _ (by omega)]
        exact ⟨fun c e => (nomatch e), fun _ => ⟨false, _, rfl, flt_new (by omega)⟩⟩
      · rw [decide_eq_false c2, if_pos (show b2i false = 0 from rfl), if_neg (by omega)]
        have hm := m_plain hL h0 hF (d := d) (a := p) (p := p) (by omega) hpp
        refine ⟨fun c e => ?_, fun e => ?_⟩
        · obtain ⟨v, a1, e1, e2⟩ := hm.1 c e
          exact ⟨v, a1, by rw [e1, bd2_s, gb_b, bd_s], e2⟩
        · obtain ⟨v, a1, e1, e2⟩ := hm.2 e
          exact ⟨v, a1, by rw [e1, bd2_s, gb_b, bd_s], e2⟩
  | succ D ih =>
    intro k d hk hd a p ha hp
    obtain ⟨k, rfl⟩ : ∃ z, k = z + 3 := ⟨k - 3, by omega⟩
    have hle := skp_le (b := b) ha
    have hpp : skp b T p = p := by rw [← hp, skp_id ha]
    show MB σ b T d F (T + (D + 1)) (oX12_atom (rc12 (k + 2)).1 (rc12 (k + 2)).2.2 (PA σ a d)) _
    have e40 : ∀ (q : Nat) (y : Int32), oX12_atom_40 (rc12 (k + 2)).1 (rc12 (k + 2)).2.2 (nI p) y (PA σ q d) = if y = 0 then bd (pu (PA σ q (d + 1)) 399 11 ((PA σ q (d + 1) 399 11) + (1 : Int32))) fun σ95 => bd2 ((rc12 (k + 2)).2.2 σ95) fun r99 σ99 => if (σ99 399 12) = (-1 : Int32) then bd2 (X12_isSign (41 : Int32) σ99) fun r114 σ114 => if r114 = 0 then bd (X12_wrong (σ114 399 11) σ114) fun σ125 => oX12_atom_128 (rc12 (k + 2)).1 (rc12 (k + 2)).2.2 r99 σ125 else oX12_atom_128 (rc12 (k + 2)).1 (rc12 (k + 2)).2.2 r99 σ114 else oX12_atom_128 (rc12 (k + 2)).1 (rc12 (k + 2)).2.2 r99 σ99 else bd2 ((rc12 (k + 2)).1 (PA σ q (d + 1))) fun r73 σ73 => if r73 = 0 then oX12_atom_84 (rc12 (k + 2)).1 (rc12 (k + 2)).2.2 (1 : Int32) σ73 else oX12_atom_84 (rc12 (k + 2)).1 (rc12 (k + 2)).2.2 (0 : Int32) σ73 := by
      intro q y
      unfold oX12_atom_40
      rw [pa_d, if_neg (show ¬ nI d = 6 from fun z => by have := nI_inj (a := d) (b := 6) (by omega) (by omega) z; omega), nI_1, pu_s, bd_s, pa_sd]
    unfold oX12_atom lpAtom
    rw [if_pos ((pa_f h0).mpr trivial), m_here hL ha, hp, bd2_s, m_has hL (by omega) hpp (s := 27) (by omega) (by omega)]
    by_cases c1 : term b T p = 30
    · have hl := term_lt (b := b) (T := T) (p := p) (by omega)
      have hn := nx_gt (b := b) hl
      rw [if_pos c1, bd2_s, if_neg (show ¬ nI 1 = 0 by decide), if_pos c1, e40, if_neg (show ¬ nI 1 = 0 by decide)]
      have hm := ih (k + 2) (d + 1) (by omega) (by omega) (tEnd b T p) (nx b T p) (tEnd_le hl).2 rfl
      have next : ∀ (v : Bool) (τ : Mem), (if b2i v = 0 then oX12_atom_84 (rc12 (k + 2)).1 (rc12 (k + 2)).2.2 (1 : Int32) τ else oX12_atom_84 (rc12 (k + 2)).1 (rc12 (k + 2)).2.2 (0 : Int32) τ) = some (b2i (!v), st τ 399 13 (τ 399 13 - 1)) := by
        intro v τ
        cases v <;> rfl
      cases hr : (lpAtom b T D (nx b T p)).2 with
      | none =>
        obtain ⟨v2, σ2, e2, f2⟩ := hm.2 hr
        unfold prB
        rw [hr, e2, bd2_s, next]
        exact ⟨fun c e => (nomatch e), fun _ => ⟨!v2, _, rfl, f2.deep.mono (by omega)⟩⟩
      | some c2 =>
        obtain ⟨v2, a2, e2, e3, e4, e5⟩ := hm.1 c2 hr
        unfold prB
        rw [hr, e2, bd2_s, next, pa_d, show nI (d + 1) - 1 = nI d from nI_pred d, pa_sd]
        refine ⟨fun c e => ?_, fun e => nomatch e⟩
        cases e
        refine ⟨!v2, a2, rfl, e3, e4, fun s => ?_⟩
        rw [runC_app, e5, runC_n, not_b]
    · rw [if_neg c1, bd2_s, if_pos (show nI 0 = 0 from rfl), if_neg c1, m_sign hL (by omega) hpp (s := 2) (by simp), bd2_s]
      by_cases c2 : term b T p = 5
      · have hl := term_lt (b := b) (T := T) (p := p) (by omega)
        have hn := nx_gt (b := b) hl
        have he := sign_end (b := b) (T := T) (p := p) (s := 2) (by omega) c2
        rw [decide_eq_true c2, if_neg (show ¬ b2i true = 0 by decide), if_pos c2, e40, if_pos (show nI 0 = 0 from rfl), pa_a, nI_1, pu_s, bd_s, pa_st]
        have hm := m_cnd hL h0 (ih k (d + 1) (by omega) (by omega)) (p + 1) (nx b T p) (by omega) (by unfold nx; rw [he])
        have g := g_so (g_atom (b := b) (T := T) D) (p := nx b T p) hn.2
        have a128 : ∀ (v : Bool) (τ : Mem), oX12_atom_128 (rc12 (k + 2)).1 (rc12 (k + 2)).2.2 (b2i v) τ = some (b2i v, st (st τ 399 11 (τ 399 11 + 1)) 399 13 (st τ 399 11 (τ 399 11 + 1) 399 13 - 1)) := by
          intro v τ
          cases v <;> rfl
        cases hr : (lpSo b T (lpAtom b T D) (nx b T p)).2 with
        | none =>
          obtain ⟨v2, σ2, e2, f2⟩ := hm.2 hr
          have hf := f2.is (by have := g.1; omega)
          unfold prB
          rw [hr, e2, bd2_s, if_neg (fun q => hf.mp q), a128]
          obtain ⟨fa, fb, fc⟩ := f2.2.1
          rw [fc, nI_1]
          exact ⟨fun c e => (nomatch e), fun _ => ⟨v2, _, rfl, ((f2.at (a := fa + 1) (by omega)).deep).mono (by omega)⟩⟩
        | some c3 =>
          obtain ⟨v2, a2, e2, e3, e4, e5⟩ := hm.1 c3 hr
          obtain ⟨j1, j2, j3, j4⟩ := g.2 c3 hr
          have hq1 := g.1
          unfold prB
          rw [hr, e2, bd2_s, if_pos ((pa_f h0).mpr trivial), m_sign hL e3 e4 (s := 3) (by simp), bd2_s]
          show MB σ b T d F _ _ (if term b T (lpSo b T (lpAtom b T D) (nx b T p)).1 = 6 then _ else _)
          by_cases c4 : term b T (lpSo b T (lpAtom b T D) (nx b T p)).1 = 6
          · have hl2 := term_lt (b := b) (T := T) (p := (lpSo b T (lpAtom b T D) (nx b T p)).1) (by omega)
            have he2 := sign_end (b := b) (T := T) (s := 3) (by omega) c4
            rw [decide_eq_true c4, if_neg (show ¬ b2i true = 0 by decide), if_pos c4, a128, pa_a, nI_1, pa_st, pa_d, show nI (d + 1) - 1 = nI d from nI_pred d, pa_sd]
            refine ⟨fun c e => ?_, fun e => nomatch e⟩
            cases e
            have hnx : nx b T (lpSo b T (lpAtom b T D) (nx b T p)).1 = skp b T ((lpSo b T (lpAtom b T D) (nx b T p)).1 + 1) := by rw [← he2]; rfl
            exact ⟨v2, _, rfl, by omega, hnx.symm, e5⟩
          · rw [decide_eq_false c4, if_pos (show b2i false = 0 from rfl), if_neg c4, pa_a, m_wrong (by rw [pa_o (by decide) (by decide)]; exact h0), bd_s, a128]
            have f2 : Flt σ (st (PA σ (lpSo b T (lpAtom b T D) (nx b T p)).1 (d + 1)) 399 12 (nI (lpSo b T (lpAtom b T D) (nx b T p)).1)) (lpSo b T (lpAtom b T D) (nx b T p)).1 T := flt_new hq1
            rw [show st (PA σ (lpSo b T (lpAtom b T D) (nx b T p)).1 (d + 1)) 399 12 (nI (lpSo b T (lpAtom b T D) (nx b T p)).1) 399 11 = nI (lpSo b T (lpAtom b T D) (nx b T p)).1 from by rw [st_at' (by decide), pa_a], nI_1]
            exact ⟨fun c e => (nomatch e), fun _ => ⟨v2, _, rfl, ((f2.at (by omega)).deep).mono (by omega)⟩⟩
      · rw [decide_eq_false c2, if_pos (show b2i false = 0 from rfl), if_neg c2]
        have hm := m_plain hL h0 hF (d := d) (a := p) (p := p) (by omega) hpp
        refine ⟨fun c e => ?_, fun e => ?_⟩
        · obtain ⟨v, a1, e1, e2⟩ := hm.1 c e
          exact ⟨v, a1, by rw [e1, bd2_s, gb_b, bd_s], e2⟩
        · obtain ⟨v, a1, e1, e2⟩ := hm.2 e
          exact ⟨v, a1, by rw [e1, bd2_s, gb_b, bd_s], e2.mono (by omega)⟩
theorem m_some (hL : LetR σ b T) (h0 : σ 399 12 = oI none) (hF : FM σ F) {a p : Nat} (ha : a ≤ T) (hp : skp b T a = p) : MB σ b T 0 F (T + 6) (X12_some (PA σ a 0)) (lpSo b T (lpAtom b T 6) p) :=
  m_cnd (k := 38) hL h0 (m_atom hL h0 hF 6 38 0 (by omega) rfl) a p ha hp
/-- what the lines so far say: kinds, and whether one is passed by -/
def KP (σ : Mem) (k : Int32) (ps : Bool) : Mem := st (st σ 399 17 (b2i ps)) 399 16 k
theorem kp_o {k : Int32} {ps : Bool} {i : Nat} (h1 : i ≠ 16) (h2 : i ≠ 17) : KP σ k ps 399 i = σ 399 i := by unfold KP; rw [st_at' h1, st_at' h2]
theorem kp_n {k : Int32} {ps : Bool} {c : Nat} (h : c ≠ 399) : KP σ k ps c = σ c := by unfold KP; rw [st_n h, st_n h]
theorem kp_k {k : Int32} {ps : Bool} : KP σ k ps 399 16 = k := by unfold KP; rw [st_at]
theorem kp_p {k : Int32} {ps : Bool} : KP σ k ps 399 17 = b2i ps := by unfold KP; rw [st_at' (by decide), st_at]
theorem LetR.kp (h : LetR σ b T) {k : Int32} {ps : Bool} : LetR (KP σ k ps) b T := by
  unfold LetR at *
  rw [kp_o (by decide) (by decide), kp_o (by decide) (by decide), kp_n (by decide), kp_n (by decide)]
  exact h
theorem fm_kp {k : Int32} {ps : Bool} (h : FM σ F) : FM (KP σ k ps) F := by
  unfold FM at *
  rw [kp_n (c := 405) (by decide), kp_n (c := 400) (by decide), kp_o (by decide) (by decide)]
  exact h
theorem pa_kp {a d : Nat} {k : Int32} {ps : Bool} {k2 : Int32} {ps2 : Bool} : st (st (PA (KP σ k ps) a d) 399 17 (b2i ps2)) 399 16 k2 = PA (KP σ k2 ps2) a d := by
  funext c
  funext j
  unfold PA KP
  simp only [st_ap]
  by_cases h : c = 399
  · subst h
    by_cases h1 : j = 16
    · subst h1; simp
    · by_cases h2 : j = 17
      · subst h2; simp
      · by_cases h3 : j = 11
        · subst h3; simp
        · by_cases h4 : j = 13
          · subst h4; simp
          · simp [h1, h2, h3, h4]
  · simp [h]
theorem Flt.kp {σ2 : Mem} {f x : Nat} {k : Int32} {ps : Bool} (h : Flt (KP σ k ps) σ2 f x) : Flt σ σ2 f x := by
  obtain ⟨h1, h2, h3, h4, h5, h6⟩ := h
  exact ⟨h1, h2, fun c c1 c2 => by rw [h3 c c1 c2, kp_n c1], fun i hi => by rw [h4 i hi, kp_o (by omega) (by omega)], fun i hi => by rw [h5 i hi, kp_n (by decide)], Or.inr (h6.elim (fun q => ⟨ps, by rw [q, kp_p]⟩) id)⟩
def LineR (σ : Mem) (b : Nat → Int32) (T : Nat) (F : Nat → Int32) (k : Int32) (ps : Bool) (r : Option Mem) (pr : PR (Int32 × Bool × List Int32)) : Prop :=
  (∀ l, pr.2 = some l → ∃ a, r = some (PA (KP σ (if holdsC F l.2.2 = true then k + l.1 else k) (ps || (l.2.1 && holdsC F l.2.2))) a 0) ∧ a ≤ T ∧ skp b T a = pr.1) ∧ (pr.2 = none → ∃ σ2, r = some σ2 ∧ Flt σ σ2 pr.1 (T + 6))
theorem m_lineEnd {a : Nat} {k : Int32} {ps : Bool} {x1 x2 : Int32} {hv : Bool} (h0 : σ 399 12 = oI none) : X12_lawLine_102 x1 x2 (b2i hv) (PA (KP σ k ps) a 0) = some (PA (KP σ (if hv = true then (if x1 = 0 then k + x2 else k + -x2) else k) (ps || (decide (x1 = 2) && hv))) a 0) := by
  have hf : (PA (KP σ k ps) a 0 399 12 = -1) ↔ True := pa_f (by rw [kp_o (by decide) (by decide)]; exact h0)
  have h16 : ∀ y, st (PA (KP σ k ps) a 0) 399 17 y 399 16 = k := fun y => by rw [st_at' (by decide), pa_o (by decide) (by decide), kp_k]
  have h17 : PA (KP σ k ps) a 0 399 17 = b2i ps := by rw [pa_o (by decide) (by decide), kp_p]
  have e134 : ∀ q : Bool, X12_lawLine_134 x1 x2 (b2i q) (PA (KP σ k ps) a 0) = some (PA (KP σ (if x1 = 0 then k + x2 else k + -x2) q) a 0) := by
    intro q
    unfold X12_lawLine_134
    rw [gb_b, bd_s, pu_s, bd_s, h16]
    by_cases c : x1 = 0
    · rw [if_pos c, if_pos c, pu_s, bd_s, pa_kp]
    · rw [if_neg c, if_neg c, pu_s, bd_s, pa_kp]
  unfold X12_lawLine_102
  rw [if_pos (hf.mpr trivial)]
  cases hv with
  | false =>
    rw [if_pos (show b2i false = 0 from rfl), if_neg (by decide), Bool.and_false, Bool.or_false]
  | true =>
    rw [if_neg (show ¬ b2i true = 0 by decide), h17, if_pos rfl, Bool.and_true]
    cases ps with
    | true =>
      rw [if_neg (show ¬ b2i true = 0 by decide)]
      exact e134 true
    | false =>
      rw [if_pos (show b2i false = 0 from rfl), Bool.false_or]
      by_cases c : x1 = 2
      · rw [if_pos c, decide_eq_true c]; exact e134 true
      · rw [if_neg c, decide_eq_false c]; exact e134 false
theorem holds_b {c : List Int32} {v : Bool} (h : ∀ s, runC F c s = b2i v :: s) : holdsC F c = v := by
  unfold holdsC
  rw [h []]
  cases v <;> decide
theorem m_lawIf (hL : LetR σ b T) (h0 : σ 399 12 = oI none) (hF : FM σ F) {a q : Nat} {k : Int32} {ps : Bool} {x1 x2 w : Int32} {pl : Bool} (ha : a ≤ T) (hq : skp b T a = q) (hw : (if x1 = 0 then k + x2 else k + -x2) = k + w) (hpl : decide (x1 = 2) = pl) : LineR σ b T F k ps (X12_lawLine_71 x1 x2 (PA (KP σ k ps) a 0)) (lpIf b T w pl q) := by
  have hT := hL.1
  have hle := skp_le (b := b) ha
  have h0k : KP σ k ps 399 12 = oI none := by rw [kp_o (by decide) (by decide)]; exact h0
  unfold X12_lawLine_71 X12_lawLine_97 lpIf
  rw [if_pos ((pa_f h0k).mpr trivial), m_has hL.kp ha hq (s := 26) (by omega) (by omega)]
  by_cases c1 : term b T q = 29
  · have hl := term_lt (b := b) (T := T) (p := q) (by omega)
    have hn := nx_gt (b := b) hl
    rw [if_pos c1, if_pos c1, bd2_s, if_neg (show ¬ nI 1 = 0 by decide)]
    have hm := m_some hL.kp h0k (fm_kp (k := k) (ps := ps) hF) (a := tEnd b T q) (p := nx b T q) (tEnd_le hl).2 rfl
    cases hr : (lpSo b T (lpAtom b T 6) (nx b T q)).2 with
    | none =>
      obtain ⟨v2, σ2, e2, f2⟩ := hm.2 hr
      have g := g_cond (b := b) (T := T) (p := nx b T q) hn.2
      have hf := f2.is (by have := g.1; omega)
      unfold prB
      rw [hr, e2, bd2_s]
      refine ⟨fun l e => (nomatch e), fun _ => ⟨σ2, ?_, f2.kp⟩⟩
      have : ∀ y, X12_lawLine_102 x1 x2 y σ2 = some σ2 := fun y => by unfold X12_lawLine_102; rw [if_neg (fun q => hf.mp q)]
      rw [this, this]
      split <;> rfl
    | some c =>
      obtain ⟨v2, a2, e2, e3, e4, e5⟩ := hm.1 c hr
      unfold prB
      rw [hr, e2, bd2_s]
      refine ⟨fun l e => ?_, fun e => nomatch e⟩
      cases e
      refine ⟨a2, ?_, e3, e4⟩
      have hh := holds_b e5
      rw [hh]
      have hb : (if b2i v2 = 0 then X12_lawLine_102 x1 x2 (0 : Int32) (PA (KP σ k ps) a2 0) else X12_lawLine_102 x1 x2 (1 : Int32) (PA (KP σ k ps) a2 0)) = X12_lawLine_102 x1 x2 (b2i v2) (PA (KP σ k ps) a2 0) := by cases v2 <;> rfl
      rw [hb, m_lineEnd h0, hw, hpl]
  · rw [if_neg c1, if_neg c1, bd2_s, if_pos (show nI 0 = 0 from rfl)]
    refine ⟨fun l e => ?_, fun e => nomatch e⟩
    cases e
    refine ⟨q, ?_, by omega, by rw [← hq, skp_id ha]⟩
    rw [show (1 : Int32) = b2i true from rfl, m_lineEnd h0, hw, hpl]
    rfl
theorem m_lawLine (hL : LetR σ b T) (h0 : σ 399 12 = oI none) (hF : FM σ F) {a p : Nat} {k : Int32} {ps : Bool} (ha : a ≤ T) (hp : skp b T a = p) : LineR σ b T F k ps (X12_lawLine (PA (KP σ k ps) a 0)) (lpLine b T p) := by
  have hT := hL.1
  have hle := skp_le (b := b) ha
  have hpp : skp b T p = p := by rw [← hp, skp_id ha]
  have h0k : KP σ k ps 399 12 = oI none := by rw [kp_o (by decide) (by decide)]; exact h0
  unfold X12_lawLine lpLine
  have num : ∀ (x1 : Int32), (x1 = 0 ∨ x1 = 1) → p < T → LineR σ b T F k ps (X12_lawLine_40 x1 (PA (KP σ k ps) (tEnd b T p) 0)) (prB (lpFig b T 20 (nx b T p)) (fun n q => lpIf b T (if x1 = 0 then nI n else -(nI n)) false q)) := by
    intro x1 hx hl
    have hn := nx_gt (b := b) hl
    have mf := m_figures hL.kp h0k (d := 0) (a := tEnd b T p) (p := nx b T p) (tEnd_le hl).2 rfl (hi := 20)
    unfold X12_lawLine_40 lpFig
    rw [if_neg (by rcases hx with rfl | rfl <;> decide), if_neg (by rcases hx with rfl | rfl <;> decide)]
    by_cases c : term b T (nx b T p) = 3 ∧ nI (val b T (nx b T p)) ≤ 20
    · have hl2 := term_lt (b := b) (T := T) (p := nx b T p) (by omega)
      rw [if_pos c] at mf
      rw [mf, bd2_s, if_pos c, prB_s]
      refine m_lawIf hL h0 hF (tEnd_le hl2).2 rfl ?_ (by rcases hx with rfl | rfl <;> decide)
      split <;> rfl
    · rw [if_neg c] at mf
      obtain ⟨r, a', a1, a2⟩ := mf
      rw [a2, bd2_s, if_neg c, prB_n]
      refine ⟨fun l e => (nomatch e), fun _ => ⟨_, ?_, (flt_new (σ := KP σ k ps) (d := 0) (f := nx b T p) (x := T + 6) (a := a') (by omega)).kp⟩⟩
      unfold X12_lawLine_71
      rw [if_neg]
      rw [st_at]
      exact nI_m1 (by omega)
  rw [m_has hL.kp ha hp (s := 23) (by omega) (by omega)]
  by_cases c1 : term b T p = 26
  · rw [if_pos c1, if_pos c1, bd2_s, if_neg (show ¬ nI 1 = 0 by decide)]
    have := num 0 (Or.inl rfl) (term_lt (b := b) (T := T) (by omega))
    simpa using this
  · rw [if_neg c1, if_neg c1, bd2_s, if_pos (show nI 0 = 0 from rfl), m_has hL.kp (by omega) hpp (s := 24) (by omega) (by omega)]
    by_cases c2 : term b T p = 27
    · rw [if_pos c2, if_pos c2, bd2_s, if_neg (show ¬ nI 1 = 0 by decide)]
      have := num 1 (Or.inr rfl) (term_lt (b := b) (T := T) (by omega))
      simpa using this
    · rw [if_neg c2, if_neg c2, bd2_s, if_pos (show nI 0 = 0 from rfl), m_has hL.kp (by omega) hpp (s := 25) (by omega) (by omega)]
      by_cases c3 : term b T p = 28
      · have hl := term_lt (b := b) (T := T) (p := p) (by omega)
        rw [if_pos c3, if_pos c3, bd2_s, if_neg (show ¬ nI 1 = 0 by decide)]
        unfold X12_lawLine_40
        rw [if_neg (by decide), if_pos rfl]
        exact m_lawIf hL h0 hF (tEnd_le hl).2 rfl (by rw [if_neg (by decide)]; rfl) rfl
      · rw [if_neg c3, if_neg c3, bd2_s, if_pos (show nI 0 = 0 from rfl)]
        unfold X12_lawLine_40
        rw [if_pos rfl, pa_a, m_wrong (by rw [pa_o (by decide) (by decide)]; exact h0k), bd_s]
        exact ⟨fun l e => (nomatch e), fun _ => ⟨_, rfl, (flt_new (σ := KP σ k ps) (d := 0) (f := p) (x := T + 6) (a := p) (by omega)).kp⟩⟩
end MREAD

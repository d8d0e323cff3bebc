/-! the reference reads the law, letter by letter, and asks it -/
def FM (σ : Mem) (F : Nat → Int32) : Prop := F 0 = σ 405 1 ∧ F 1 = σ 405 0 ∧ F 2 = σ 405 2 ∧ F 3 = σ 405 3 ∧ F 4 = σ 405 4 ∧ F 5 = σ 405 5 ∧ F 6 = σ 405 6 ∧ (∃ o, F 7 = b2i o ∧ σ 399 15 = b2i o) ∧ ∃ m, F 8 = b2i m ∧ σ 400 8 = b2i m
def MI (σ : Mem) (b : Nat → Int32) (T d : Nat) (F : Nat → Int32) (x : Nat) (r : Option (Int32 × Mem)) (pr : PR (List Int32)) : Prop :=
  (∀ c, pr.2 = some c → ∃ v a, r = some (v, PA σ a d) ∧ a ≤ T ∧ skp b T a = pr.1 ∧ ∀ s, runC F c s = v :: s) ∧ (pr.2 = none → ∃ v σ2, r = some (v, σ2) ∧ Flt σ σ2 pr.1 x)
def MB (σ : Mem) (b : Nat → Int32) (T d : Nat) (F : Nat → Int32) (x : Nat) (r : Option (Int32 × Mem)) (pr : PR (List Int32)) : Prop :=
  (∀ c, pr.2 = some c → ∃ v a, r = some (b2i v, PA σ a d) ∧ a ≤ T ∧ skp b T a = pr.1 ∧ ∀ s, runC F c s = b2i v :: s) ∧ (pr.2 = none → ∃ v σ2, r = some (b2i v, σ2) ∧ Flt σ σ2 pr.1 x)
section MLAW
variable {σ : Mem} {b : Nat → Int32} {T : Nat} {F : Nat → Int32}
theorem flt_new {a d f x : Nat} (ha : a ≤ x) : Flt σ (st (PA σ a d) 399 12 (nI f)) f x :=
  ⟨st_at, ⟨a, ha, by rw [st_at' (by decide), pa_a]⟩, fun c h1 h2 => by rw [st_n h1, pa_n h1], fun i hi => by rw [st_at' (by omega), pa_o (by omega) (by omega)], fun i hi => by rw [st_n (by decide), pa_n (by decide)], Or.inl (by rw [st_at' (by decide), pa_o (by decide) (by decide)])⟩
theorem Flt.deep {σ2 : Mem} {f x : Nat} {y : Int32} (h : Flt σ σ2 f x) : Flt σ (st σ2 399 13 y) f x := by
  obtain ⟨h1, ⟨a, a1, a2⟩, h3, h4, h5, h6⟩ := h
  exact ⟨by rw [st_at' (by decide)]; exact h1, ⟨a, a1, by rw [st_at' (by decide)]; exact a2⟩, fun c c1 c2 => by rw [st_n c1]; exact h3 c c1 c2, fun i hi => by rw [st_at' (by omega)]; exact h4 i hi, fun i hi => by rw [st_n (by decide)]; exact h5 i hi, by rw [st_at' (by decide)]; exact h6⟩
theorem Flt.at {σ2 : Mem} {f x a : Nat} (h : Flt σ σ2 f x) (ha : a ≤ x + 1) : Flt σ (st σ2 399 11 (nI a)) f (x + 1) := by
  obtain ⟨h1, -, h3, h4, h5, h6⟩ := h
  exact ⟨by rw [st_at' (by decide)]; exact h1, ⟨a, ha, st_at⟩, fun c c1 c2 => by rw [st_n c1]; exact h3 c c1 c2, fun i hi => by rw [st_at' (by omega)]; exact h4 i hi, fun i hi => by rw [st_n (by decide)]; exact h5 i hi, by rw [st_at' (by decide)]; exact h6⟩
theorem Flt.mono {σ2 : Mem} {f x y : Nat} (h : Flt σ σ2 f x) (hxy : x ≤ y) : Flt σ σ2 f y := by
  obtain ⟨h1, ⟨a, a1, a2⟩, h3⟩ := h
  exact ⟨h1, ⟨a, by omega, a2⟩, h3⟩
theorem Flt.pa {σ2 : Mem} {f x a d : Nat} (h : Flt (PA σ a d) σ2 f x) : Flt σ σ2 f x := by
  obtain ⟨h1, h2, h3, h4, h5, h6⟩ := h
  exact ⟨h1, h2, fun c c1 c2 => by rw [h3 c c1 c2, pa_n c1], fun i hi => by rw [h4 i hi, pa_o (by omega) (by omega)], fun i hi => by rw [h5 i hi, pa_n (by decide)], by rw [pa_o (by decide) (by decide)] at h6; exact h6⟩
theorem Flt.is {σ2 : Mem} {f x : Nat} (h : Flt σ σ2 f x) (hf : f ≤ 1000) : (σ2 399 12 = -1) ↔ False := by
  rw [h.1]
  exact nI_on (by omega)
theorem pa_f {a d : Nat} (h0 : σ 399 12 = oI none) : (PA σ a d 399 12 = -1) ↔ True := by
  rw [pa_o (by decide) (by decide), h0]
  exact ⟨fun _ => trivial, fun _ => rfl⟩
theorem fm_pa {a d : Nat} (h : FM σ F) : FM (PA σ a d) F := by
  unfold FM at *
  rw [pa_n (c := 405) (by decide), pa_n (c := 400) (by decide), pa_o (by decide) (by decide)]
  exact h
theorem runC_1 {k : Nat} (hk : k < 1000) {s : List Int32} : runC F [nI k] s = nI k :: s := by
  show stepC F (nI k) s = _
  unfold stepC
  rw [if_pos (show nI k < 1000 from nI_lt (b := 1000) hk (by omega)), if_neg (nI_pos (by omega))]
theorem runC_f {k : Nat} (hk : 1000 ≤ k) (hk2 : k ≤ 1008) {s : List Int32} : runC F [nI k] s = F (k - 1000) :: s := by
  show stepC F (nI k) s = _
  unfold stepC
  rw [if_neg (show ¬ nI k < 1000 from nI_nlt (b := 1000) hk (by omega)), nI_clamp (by omega)]
theorem runC_2 {x u w : Int32} (hx : x < 0) (h4 : x ≠ -4) {s : List Int32} : runC F [x] (w :: u :: s) = joinC x u w :: s := by
  show stepC F x (w :: u :: s) = _
  unfold stepC
  rw [if_pos (Int32.lt_trans hx (by decide)), if_pos hx, if_neg h4]
theorem runC_n {u : Int32} {s : List Int32} : runC F [-4] (u :: s) = (1 - u) :: s := rfl
theorem m_part (hL : LetR σ b T) (h0 : σ 399 12 = oI none) (hF : FM σ F) {a d p : Nat} (ha : a ≤ T) (hp : skp b T a = p) : MI σ b T d F T (X12_part (PA σ a d)) (lpPart b T p) := by
  have hT := hL.1
  have hle := skp_le (b := b) ha
  have hpp : skp b T p = p := by rw [← hp, skp_id ha]
  rw [hp] at hle
  have h405 : ln 405 = 7 := by decide +kernel
  have ef : ∀ (τ : Mem) (i : Nat), i < 7 → ag τ 405 (nI i) = some (τ 405 i) := fun τ i hi => ag_nI (by omega) (by omega)
  have e52 : MI σ b T d F T (X12_part_52 (PA σ p d)) (if 10 ≤ term b T p ∧ term b T p ≤ 16 then (nx b T p, some [nI (1000 + (term b T p - 10))]) else (p, none)) := by
    have hh : ∀ s, 7 ≤ s → s < 30 → X12_has s (PA σ p d) = if term b T p = s + 3 then some (nI 1, PA σ (tEnd b T p) d) else some (nI 0, PA σ p d) := fun s h1 h2 => m_has hL hle.2 hpp h1 h2
    have done : ∀ (k t : Nat), k < 7 → term b T p = t → 10 ≤ t → t ≤ 16 → F (t - 10) = σ 405 k → MI σ b T d F T (X12_part_145 (nI k) (PA σ (tEnd b T p) d)) (if 10 ≤ term b T p ∧ term b T p ≤ 16 then (nx b T p, some [nI (1000 + (term b T p - 10))]) else (p, none)) := by
      intro k t hk ht h1 h2 hf
      have hl := term_lt (b := b) (T := T) (p := p) (by omega)
      rw [if_pos ⟨by omega, by omega⟩]
      refine ⟨fun c e => ?_, fun e => nomatch e⟩
      cases e
      refine ⟨σ 405 k, tEnd b T p, ?_, (tEnd_le hl).2, rfl, fun s => ?_⟩
      · unfold X12_part_145
        rw [if_neg (show ¬ nI k = -1 from nI_m1 (by omega)), ef _ k hk, bd_s, pa_n (by decide)]
      · rw [runC_f (by omega) (by omega), show 1000 + (term b T p - 10) - 1000 = t - 10 by omega, hf]
    obtain ⟨f0, f1, f2, f3, f4, f5, f6, -⟩ := hF
    unfold X12_part_52
    rw [hh 8 (by omega) (by omega)]
    by_cases t1 : term b T p = 11
    · rw [if_pos t1]; exact done 0 11 (by omega) t1 (by omega) (by omega) f1
    rw [if_neg t1, bd2_s, if_pos (show nI 0 = 0 from rfl), hh 7 (by omega) (by omega)]
    by_cases t2 : term b T p = 10
    · rw [if_pos t2]; exact done 1 10 (by omega) t2 (by omega) (by omega) f0
    rw [if_neg t2, bd2_s, if_pos (show nI 0 = 0 from rfl), hh 9 (by omega) (by omega)]
    by_cases t3 : term b T p = 12
    · rw [if_pos t3]; exact done 2 12 (by omega) t3 (by omega) (by omega) f2
    rw [if_neg t3, bd2_s, if_pos (show nI 0 = 0 from rfl), hh 10 (by omega) (by omega)]
    by_cases t4 : term b T p = 13
    · rw [if_pos t4]; exact done 3 13 (by omega) t4 (by omega) (by omega) f3
    rw [if_neg t4, bd2_s, if_pos (show nI 0 = 0 from rfl), hh 11 (by omega) (by omega)]
    by_cases t5 : term b T p = 14
    · rw [if_pos t5]; exact done 4 14 (by omega) t5 (by omega) (by omega) f4
    rw [if_neg t5, bd2_s, if_pos (show nI 0 = 0 from rfl), hh 12 (by omega) (by omega)]
    by_cases t6 : term b T p = 15
    · rw [if_pos t6]; exact done 5 15 (by omega) t6 (by omega) (by omega) f5
    rw [if_neg t6, bd2_s, if_pos (show nI 0 = 0 from rfl), hh 13 (by omega) (by omega)]
    by_cases t7 : term b T p = 16
    · rw [if_pos t7]; exact done 6 16 (by omega) t7 (by omega) (by omega) f6
    rw [if_neg t7, bd2_s, if_pos (show nI 0 = 0 from rfl), if_neg (by omega)]
    refine ⟨fun c e => (nomatch e), fun _ => ?_⟩
    refine ⟨0, st (PA σ p d) 399 12 (nI p), ?_, flt_new hle.2⟩
    unfold X12_part_145
    rw [if_pos rfl, pa_a, m_wrong (by rw [pa_o (by decide) (by decide)]; exact h0), bd_s]
  unfold X12_part
  rw [if_pos ((pa_f h0).mpr trivial), m_skip hL ha, bd_s, hp, hL.pa.2.1, pa_a]
  unfold lpPart
  by_cases c1 : T ≤ p
  · rw [if_pos (nI_le c1 (by omega))]
    have : term b T p = 1 := term_T c1
    rw [if_neg (show ¬ (10 ≤ term b T p ∧ term b T p ≤ 16) by omega)] at e52
    rw [if_neg (show ¬ (10 ≤ term b T p ∧ term b T p ≤ 16) by omega), if_neg (by omega)]
    exact e52
  · rw [if_neg (nI_ge (by omega) (by omega)), m_letter hL.pa (by omega), bd_s, isIn_kd2, bd_s]
    by_cases c2 : kdI (b p) = 2
    · rw [decide_eq_true c2, if_neg (show ¬ b2i true = 0 by decide)]
      have ht : term b T p = 3 ∨ term b T p = 2 := by
        unfold term
        rw [if_neg c1, if_pos c2]
        split
        · exact Or.inl rfl
        · exact Or.inr rfl
      rw [if_neg (show ¬ (10 ≤ term b T p ∧ term b T p ≤ 16) by omega)]
      have mf := m_figures hL h0 (d := d) hle.2 hpp (hi := 999)
      by_cases c3 : term b T p = 3
      · have hv := (val_I c3).2
        rw [if_pos ⟨c3, show nI (val b T p) ≤ 999 from nI_le (b := 999) hv (by omega)⟩] at mf
        rw [if_pos c3, mf]
        refine ⟨fun c e => ?_, fun e => nomatch e⟩
        cases e
        exact ⟨_, tEnd b T p, rfl, (tEnd_le (by omega)).2, rfl, fun s => runC_1 (by omega)⟩
      · rw [if_neg (fun q => c3 q.1)] at mf
        obtain ⟨r, a', a1, a2⟩ := mf
        rw [if_neg c3, a2]
        exact ⟨fun c e => (nomatch e), fun _ => ⟨r, _, rfl, flt_new a1⟩⟩
    · rw [decide_eq_false c2, if_pos (show b2i false = 0 from rfl)]
      have h3 : ¬ term b T p = 3 := fun q => c2 (term_num.mp q).2.1
      by_cases c4 : 10 ≤ term b T p ∧ term b T p ≤ 16
      · rw [if_pos c4] at e52 ⊢; exact e52
      · rw [if_neg c4] at e52 ⊢; rw [if_neg h3]; exact e52
theorem sign_ {p s : Nat} {c : Int32} (hs : s = 1 ∧ c = 59 ∨ s = 2 ∧ c = 40 ∨ s = 3 ∧ c = 41 ∨ s = 4 ∧ c = 43 ∨ s = 5 ∧ c = 60 ∨ s = 6 ∧ c = 62) : (p < T ∧ b p = c) ↔ term b T p = s + 3 := by
  have h1 : wlen s = 1 ∧ wch s 0 = c ∧ kdI c = 0 ∧ 1 ≤ s ∧ s < 30 := by
    rcases hs with ⟨rfl, rfl⟩ | ⟨rfl, rfl⟩ | ⟨rfl, rfl⟩ | ⟨rfl, rfl⟩ | ⟨rfl, rfl⟩ | ⟨rfl, rfl⟩ <;> decide +kernel
  obtain ⟨w1, w2, w3, w4, w5⟩ := h1
  rw [term_wd w4 w5]
  constructor
  · rintro ⟨q1, q2⟩
    refine ⟨q1, by rw [q2, w3]; decide, ?_⟩
    unfold wdAt tEnd
    rw [if_neg (by omega), q2, w3, if_pos rfl, w1]
    simp [allR, q2, w2]
  · rintro ⟨q1, q2, q3⟩
    unfold wdAt at q3
    rw [Bool.and_eq_true, decide_eq_true_eq, allR_iff, w1] at q3
    have := q3.2 0 (by omega)
    rw [decide_eq_true_eq, w2, Nat.add_zero] at this
    exact ⟨q1, this⟩
theorem sign_end {p s : Nat} (hs : 1 ≤ s ∧ s ≤ 6) (h : term b T p = s + 3) : tEnd b T p = p + 1 := by
  have h2 := (term_wd (by omega) (by omega)).mp h
  have hw : ∀ s, 1 ≤ s ∧ s ≤ 6 → wlen s = 1 := by
    intro s hs
    have : s = 1 ∨ s = 2 ∨ s = 3 ∨ s = 4 ∨ s = 5 ∨ s = 6 := by omega
    rcases this with rfl | rfl | rfl | rfl | rfl | rfl <;> decide +kernel
  have h3 := h2.2.2
  unfold wdAt at h3
  rw [Bool.and_eq_true, decide_eq_true_eq, hw s hs] at h3
  omega
theorem m_sign (hL : LetR σ b T) {a d p s : Nat} {c : Int32} (ha : a ≤ T) (hp : skp b T a = p) (hs : s = 1 ∧ c = 59 ∨ s = 2 ∧ c = 40 ∨ s = 3 ∧ c = 41 ∨ s = 4 ∧ c = 43 ∨ s = 5 ∧ c = 60 ∨ s = 6 ∧ c = 62) : X12_isSign c (PA σ a d) = some (b2i (decide (term b T p = s + 3)), PA σ p d) := by
  rw [m_isSign hL ha hp]
  congr 3
  exact decide_eq_decide.mpr (sign_ hs)
theorem m_sumL (hL : LetR σ b T) (h0 : σ 399 12 = oI none) (hF : FM σ F) {d : Nat} : ∀ (f fuel q a : Nat) (c : List Int32) (v : Int32), T < q + f → T < q + fuel → a ≤ T → skp b T a = q → (∀ s, runC F c s = v :: s) → MI σ b T d F T (X12_sum_5 fuel v (PA σ a d)) (lpSumL b T f c q) := by
  have hT := hL.1
  intro f
  induction f with
  | zero => intro fuel q a c v h1 h2 ha hq hc; have := skp_le (b := b) ha; omega
  | succ f ih =>
    intro fuel q a c v h1 h2 ha hq hc
    have hle := skp_le (b := b) ha
    obtain ⟨fuel, rfl⟩ : ∃ z, fuel = z + 1 := ⟨fuel - 1, by omega⟩
    rw [X12_sum_5, if_pos ((pa_f h0).mpr trivial), m_sign hL ha hq (s := 4) (by simp), bd2_s]
    unfold lpSumL
    by_cases c1 : term b T q = 7
    · have hl := term_lt (b := b) (T := T) (p := q) (by omega)
      have hn := nx_gt (b := b) hl
      have he := sign_end (b := b) (T := T) (p := q) (s := 4) (by omega) c1
      rw [decide_eq_true c1, if_neg (show ¬ b2i true = 0 by decide), pa_a, nI_1, pu_s, bd_s, pa_st, if_pos c1]
      have hm := m_part hL h0 hF (d := d) (a := q + 1) (p := nx b T q) (by omega) (by unfold nx; rw [he])
      cases hr : (lpPart b T (nx b T q)).2 with
      | none =>
        obtain ⟨v2, σ2, e2, f2⟩ := hm.2 hr
        have g := g_part (b := b) (T := T) hn.2
        unfold prB
        rw [hr, e2, bd2_s]
        refine ⟨fun c e => (nomatch e), fun _ => ⟨v + v2, σ2, ?_, f2⟩⟩
        obtain ⟨fuel, rfl⟩ : ∃ z, fuel = z + 1 := ⟨fuel - 1, by omega⟩
        have := f2.is (by have := g.1; omega)
        rw [X12_sum_5, if_neg (fun q => this.mp q)]
      | some c2 =>
        obtain ⟨v2, a2, e2, e3, e4, e5⟩ := hm.1 c2 hr
        have g := (g_part (b := b) (T := T) hn.2).2 c2 hr
        unfold prB
        rw [hr, e2, bd2_s]
        refine ih fuel _ a2 _ (v + v2) (by omega) (by omega) e3 e4 (fun s => ?_)
        rw [runC_app, runC_app, hc, e5, runC_2 (by decide) (by decide)]
        rfl
    · rw [decide_eq_false c1, if_pos (show b2i false = 0 from rfl), if_neg c1]
      refine ⟨fun c2 e => ?_, fun e => nomatch e⟩
      cases e
      exact ⟨v, q, rfl, by omega, by rw [← hq, skp_id ha], hc⟩
theorem m_sum (hL : LetR σ b T) (h0 : σ 399 12 = oI none) (hF : FM σ F) {a d p : Nat} (ha : a ≤ T) (hp : skp b T a = p) : MI σ b T d F T (X12_sum (PA σ a d)) (lpSum b T p) := by
  have hT := hL.1
  have hle := skp_le (b := b) ha
  have hm := m_part hL h0 hF (d := d) ha hp
  have g := g_part (b := b) (T := T) (p := p) (by omega)
  unfold X12_sum lpSum
  cases hr : (lpPart b T p).2 with
  | none =>
    obtain ⟨v2, σ2, e2, f2⟩ := hm.2 hr
    unfold prB
    rw [hr, e2, bd2_s]
    refine ⟨fun c e => (nomatch e), fun _ => ⟨v2, σ2, ?_, f2⟩⟩
    have := f2.is (by have := g.1; omega)
    obtain ⟨fu, hfu⟩ : ∃ z, FU = z + 1 := ⟨99999, rfl⟩
    rw [hfu, X12_sum_5, if_neg (fun q => this.mp q)]
  | some c2 =>
    obtain ⟨v2, a2, e2, e3, e4, e5⟩ := hm.1 c2 hr
    have g := g.2 c2 hr
    unfold prB
    rw [hr, e2, bd2_s]
    exact m_sumL hL h0 hF 400 FU _ a2 c2 v2 (by omega) (by show T < _ + 100000; omega) e3 e4 e5
theorem m_plain (hL : LetR σ b T) (h0 : σ 399 12 = oI none) (hF : FM σ F) {a d p : Nat} (ha : a ≤ T) (hp : skp b T a = p) : MB σ b T d F T (X12_plain (PA σ a d)) (lpPlain b T p) := by
  have hT := hL.1
  have hle := skp_le (b := b) ha
  have hpp : skp b T p = p := by rw [← hp, skp_id ha]
  have h400 : ∀ τ : Mem, ag τ 400 (8 : Int32) = some (τ 400 8) := fun τ => m_at (i := 8) (by omega)
  unfold X12_plain lpPlain
  rw [m_has hL ha hp (s := 14) (by omega) (by omega)]
  by_cases c1 : term b T p = 17
  · have hl := term_lt (b := b) (T := T) (p := p) (by omega)
    obtain ⟨o, o1, o2⟩ := hF.2.2.2.2.2.2.2.1
    rw [if_pos c1, if_pos c1, bd2_s, if_neg (show ¬ nI 1 = 0 by decide), pa_o (by decide) (by decide), o2, gb_b, bd_s]
    refine ⟨fun c e => ?_, fun e => nomatch e⟩
    cases e
    refine ⟨o, tEnd b T p, rfl, (tEnd_le hl).2, rfl, fun s => ?_⟩
    rw [runC_f (by omega) (by omega), ← o1]
  · rw [if_neg c1, if_neg c1, bd2_s, if_pos (show nI 0 = 0 from rfl), m_has hL (by omega) hpp (s := 15) (by omega) (by omega)]
    by_cases c2 : term b T p = 18
    · have hl := term_lt (b := b) (T := T) (p := p) (by omega)
      obtain ⟨m, o1, o2⟩ := hF.2.2.2.2.2.2.2.2
      rw [if_pos c2, if_pos c2, bd2_s, if_neg (show ¬ nI 1 = 0 by decide), h400, bd_s, pa_n (by decide), o2]
      refine ⟨fun c e => ?_, fun e => nomatch e⟩
      cases e
      refine ⟨m, tEnd b T p, ?_, (tEnd_le hl).2, rfl, fun s => ?_⟩
      · cases m <;> rfl
      · rw [runC_f (by omega) (by omega), ← o1]
    · rw [if_neg c2, if_neg c2, bd2_s, if_pos (show nI 0 = 0 from rfl)]
      have hm := m_sum hL h0 hF (d := d) (a := p) (p := p) (by omega) hpp
      have g := g_sum (b := b) (T := T) (p := p) (by omega)
      cases hr : (lpSum b T p).2 with
      | none =>
        obtain ⟨v2, σ2, e2, f2⟩ := hm.2 hr
        have := f2.is (by have := g.1; omega)
        unfold prB
        rw [hr, e2, bd2_s, if_neg (fun q => this.mp q)]
        exact ⟨fun c e => (nomatch e), fun _ => ⟨false, σ2, rfl, f2⟩⟩
      | some c =>
        obtain ⟨v1, a1, e1, e2, e3, e4⟩ := hm.1 c hr
        obtain ⟨j1, j2, j3, j4⟩ := g.2 c hr
        unfold prB
        rw [hr, e1, bd2_s, if_pos ((pa_f h0).mpr trivial), m_sign hL e2 e3 (s := 5) (by simp), bd2_s]
        show MB σ b T d F T _ (if term b T (lpSum b T p).1 = 8 then _ else _)
        have tail : ∀ (x : Int32) (y : Int32), (x = -2 ∧ y ≠ 0 ∨ x = -3 ∧ y = 0) → (lpSum b T p).1 < T → tEnd b T (lpSum b T p).1 = (lpSum b T p).1 + 1 → MB σ b T d F T (X12_plain_85 v1 y (PA σ (lpSum b T p).1 d)) (prB (lpSum b T (nx b T (lpSum b T p).1)) (fun c2 r => (r, some (c ++ c2 ++ [x])))) := by
          intro x y hx hl he
          have hn := nx_gt (b := b) hl
          have hm2 := m_sum hL h0 hF (d := d) (a := (lpSum b T p).1 + 1) (p := nx b T (lpSum b T p).1) (by omega) (by unfold nx; rw [he])
          unfold X12_plain_85
          rw [pa_a, nI_1, pu_s, bd_s, pa_st]
          cases hr2 : (lpSum b T (nx b T (lpSum b T p).1)).2 with
          | none =>
            obtain ⟨v2, σ2, e5, f2⟩ := hm2.2 hr2
            unfold prB
            rw [hr2, e5, bd2_s]
            refine ⟨fun c e => (nomatch e), fun _ => ?_⟩
            by_cases y0 : y = 0
            · rw [if_pos y0]
              by_cases z : v1 ≤ v2
              · rw [if_pos z]; exact ⟨false, σ2, rfl, f2⟩
              · rw [if_neg z]; exact ⟨true, σ2, rfl, f2⟩
            · rw [if_neg y0]
              by_cases z : v2 ≤ v1
              · rw [if_pos z]; exact ⟨false, σ2, rfl, f2⟩
              · rw [if_neg z]; exact ⟨true, σ2, rfl, f2⟩
          | some c2 =>
            obtain ⟨v2, a2, e5, e6, e7, e8⟩ := hm2.1 c2 hr2
            unfold prB
            rw [hr2, e5, bd2_s]
            refine ⟨fun c3 e => ?_, fun e => nomatch e⟩
            cases e
            have hrun : ∀ s, runC F (c ++ c2 ++ [x]) s = joinC x v1 v2 :: s := fun s => by
              rw [runC_app, runC_app, e4, e8, runC_2 (by rcases hx with h | h <;> rw [h.1] <;> decide) (by rcases hx with h | h <;> rw [h.1] <;> decide)]
            rcases hx with ⟨hx, hy⟩ | ⟨hx, hy⟩
            · rw [if_neg hy]
              by_cases z : v2 ≤ v1
              · rw [if_pos z]
                refine ⟨false, a2, rfl, e6, e7, fun s => ?_⟩
                rw [hrun, hx]; show (if v2 ≤ v1 then (0 : Int32) else 1) :: s = _; rw [if_pos z]; rfl
              · rw [if_neg z]
                refine ⟨true, a2, rfl, e6, e7, fun s => ?_⟩
                rw [hrun, hx]; show (if v2 ≤ v1 then (0 : Int32) else 1) :: s = _; rw [if_neg z]; rfl
            · rw [if_pos hy]
              by_cases z : v1 ≤ v2
              · rw [if_pos z]
                refine ⟨false, a2, rfl, e6, e7, fun s => ?_⟩
                rw [hrun, hx]; show (if v1 ≤ v2 then (0 : Int32) else 1) :: s = _; rw [if_pos z]; rfl
              · rw [if_neg z]
                refine ⟨true, a2, rfl, e6, e7, fun s => ?_⟩
                rw [hrun, hx]; show (if v1 ≤ v2 then (0 : Int32) else 1) :: s = _; rw [if_neg z]; rfl
        by_cases c3 : term b T (lpSum b T p).1 = 8
        · rw [if_pos c3, decide_eq_true c3, if_neg (show ¬ b2i true = 0 by decide)]
          exact tail (-2) _ (Or.inl ⟨rfl, by decide⟩) (term_lt (b := b) (T := T) (by omega)) (sign_end (s := 5) (by omega) c3)
        · rw [if_neg c3, decide_eq_false c3, if_pos (show b2i false = 0 from rfl), m_sign hL (by have := g.1; omega) j2 (s := 6) (by simp), bd2_s]
          by_cases c4 : term b T (lpSum b T p).1 = 9
          · rw [if_pos c4, decide_eq_true c4, if_neg (show ¬ b2i true = 0 by decide)]
            exact tail (-3) _ (Or.inr ⟨rfl, rfl⟩) (term_lt (b := b) (T := T) (by omega)) (sign_end (s := 6) (by omega) c4)
          · rw [if_neg c4, decide_eq_false c4, if_pos (show b2i false = 0 from rfl), pa_a, m_wrong (by rw [pa_o (by decide) (by decide)]; exact h0), bd_s]
            exact ⟨fun c e => (nomatch e), fun _ => ⟨false, _, rfl, flt_new g.1⟩⟩
end MLAW

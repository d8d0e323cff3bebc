/-! the reference reads a street -/
def MSt (σ0 : Mem) (b : Nat → Int32) (T : Nat) (t : (Nat → Int32) × Nat) (v : View) (σ : Mem) : Prop := LetR σ b T ∧ σ 399 9 = oI none ∧ σ 399 12 = oI none ∧ WF v ∧ SM (σ 400) v ∧ (v.txt, v.texts) = t ∧ ∀ c, c ≠ 400 → σ c = σ0 c
/-- a fault is told -/
def FS (σ0 : Mem) (b : Nat → Int32) (T : Nat) (t : (Nat → Int32) × Nat) (f : Nat) (τ : Mem) : Prop := f ≤ T ∧ ∃ σ a, τ = PA σ a 0 ∧ a ≤ T ∧ LetR σ b T ∧ σ 399 12 = nI f ∧ (∀ c, c ≠ 399 → c ≠ 400 → σ c = σ0 c) ∧ (∀ i, i ≠ 12 → σ 399 i = σ0 399 i) ∧ ∀ i, 488 ≤ i → σ 400 i = t.1 i
def SlR (σ0 : Mem) (b : Nat → Int32) (T : Nat) (t : (Nat → Int32) × Nat) (r : Option Mem) (pr : PR View) : Prop := (∃ v2 σ a, pr.2 = some v2 ∧ r = some (PA σ a 0) ∧ a ≤ T ∧ skp b T a = pr.1 ∧ MSt σ0 b T t v2 σ) ∨ ∃ τ, r = some τ ∧ FS σ0 b T t pr.1 τ ∧ (pr.2 = none ∨ (pr.1 < T ∧ term b T pr.1 ≠ 4))
section STREET3
variable {σ σ0 σ1 σ2 τ : Mem} {v : View} {b : Nat → Int32} {T a p f e k : Nat} {t : (Nat → Int32) × Nat} {x1 x2 x3 : Int32}
theorem LetR.tape (h : LetR σ b T) (h9 : σ 399 9 = oI none) (g : σ2 404 = σ 404) (g9 : σ2 399 9 = σ 399 9) (g10 : σ2 399 10 = σ 399 10) : LetR σ2 b T := by
  obtain ⟨h1, h2, h3⟩ := h
  refine ⟨h1, by rw [g10]; exact h2, Or.inl ⟨by rw [g9]; exact h9, fun k hk => ?_⟩⟩
  rcases h3 with ⟨q1, q2⟩ | ⟨q1, q2⟩
  · rw [g]; exact q2 k hk
  · rw [h9] at q1; exact absurd q1.symm (nI_m1 (by omega))
theorem pa_12 {a d : Nat} {x : Int32} : st (PA σ a d) 399 12 x = PA (st σ 399 12 x) a d := by
  unfold PA
  rw [st_comm (Or.inr (by decide)), st_comm (k := 399) (i := 13) (Or.inr (by decide))]
theorem MSt.flt (h : MSt σ0 b T t v σ) {f a : Nat} (hf : f ≤ T) (ha : a ≤ T) : FS σ0 b T t f (st (PA σ a 0) 399 12 (nI f)) := by
  obtain ⟨h1, h9, h2, h3, h4, h5, h6⟩ := h
  refine ⟨hf, st σ 399 12 (nI f), a, pa_12, ha, h1.tape h9 (st_n (by decide)) (st_at' (by decide)) (st_at' (by decide)), st_at, fun c c1 c2 => by rw [st_n c1, h6 c c2], fun i hi => by rw [st_at' hi, h6 399 (by decide)], fun i hi => ?_⟩
  rw [st_n (by decide), h4.txt i (by omega), ← h5]
theorem MSt.m1 (h : MSt σ0 b T t v σ) {a : Nat} : (PA σ a 0 399 12 = -1) ↔ True := pa_f h.2.2.1
theorem FS.m1 (h : FS σ0 b T t f τ) (hT : T ≤ 400) : (τ 399 12 = -1) ↔ False := by
  obtain ⟨hf, σ, a, rfl, h1, h2, h3, h4⟩ := h
  rw [pa_o (by decide) (by decide), h3]
  exact ⟨fun z => nI_m1 (by omega) z, False.elim⟩
/-- beside a fault nothing more is told -/
theorem FS.fig (h : FS σ0 b T t f τ) (hT : T ≤ 400) {lo hi : Int32} : X12_figures lo hi τ = some (0, τ) := by
  unfold X12_figures
  rw [if_neg (fun z => (h.m1 hT).mp z)]
theorem FS.after (h : FS σ0 b T t f τ) (hT : T ≤ 400) {s : Nat} {lo hi : Int32} : X12_after s lo hi τ = some (0, τ) := by
  unfold X12_after X12_after_24
  rw [if_neg (fun z => (h.m1 hT).mp z), h.fig hT]; rfl
theorem FS.wrong (h : FS σ0 b T t f τ) (hT : T ≤ 400) {x : Int32} : X12_wrong x τ = some τ := by
  unfold X12_wrong
  rw [if_neg (fun z => (h.m1 hT).mp z)]
theorem FS.here (h : FS σ0 b T t f τ) : ∃ r τ2, X12_here τ = some (r, τ2) ∧ FS σ0 b T t f τ2 := by
  obtain ⟨hf, σ, a, rfl, h1, h2, h3⟩ := h
  exact ⟨_, _, m_here h2 h1, hf, σ, _, rfl, (skp_le h1).2, h2, h3⟩
theorem FS.skip (h : FS σ0 b T t f τ) : ∃ τ2, X12_skip τ = some τ2 ∧ FS σ0 b T t f τ2 := by
  obtain ⟨hf, σ, a, rfl, h1, h2, h3⟩ := h
  exact ⟨_, m_skip h2 h1, hf, σ, _, rfl, (skp_le h1).2, h2, h3⟩
theorem ag_any {i : Nat} (h : i < 888) : ∃ y, ag τ 400 (nI i) = some y := ⟨_, m_at h⟩
theorem MSt.w (h : MSt σ0 b T t v σ) {f a : Nat} (hf : f ≤ T) (ha : a ≤ T) : ∃ τ, X12_wrong (nI f) (PA σ a 0) = some τ ∧ FS σ0 b T t f τ := ⟨_, m_wrong (by rw [pa_o (by decide) (by decide)]; exact h.2.2.1), h.flt hf ha⟩
theorem m_fig (h : MSt σ0 b T t v σ) (ha : a ≤ T) (hp : skp b T a = p) (hi : Int32) : (∃ n, lpFig b T hi p = (nx b T p, some n) ∧ X12_figures 0 hi (PA σ a 0) = some (nI n, PA σ (tEnd b T p) 0) ∧ tEnd b T p ≤ T ∧ nI n ≤ hi ∧ n ≤ 999) ∨ (lpFig b T hi p = (p, none) ∧ ∃ r τ, X12_figures 0 hi (PA σ a 0) = some (r, τ) ∧ FS σ0 b T t p τ) := by
  have hle := skp_le (b := b) ha
  rw [hp] at hle
  have mf := m_figures h.1 h.2.2.1 (d := 0) ha hp (hi := hi)
  unfold lpFig
  by_cases c : term b T p = 3 ∧ nI (val b T p) ≤ hi
  · have hl := term_lt (b := b) (T := T) (p := p) (by omega)
    rw [if_pos c] at mf ⊢
    exact Or.inl ⟨_, rfl, mf, (tEnd_le hl).2, c.2, (val_I c.1).2⟩
  · rw [if_neg c] at mf ⊢
    obtain ⟨r, a', a1, a2⟩ := mf
    exact Or.inr ⟨rfl, r, _, a2, h.flt hle.2 a1⟩
theorem m_hs (h : MSt σ0 b T t v σ) (ha : a ≤ T) (hp : skp b T a = p) {s : Nat} (h7 : 7 ≤ s) (hs : s < 30) : (term b T p = s + 3 ∧ X12_has s (PA σ a 0) = some (nI 1, PA σ (tEnd b T p) 0) ∧ p < T ∧ tEnd b T p ≤ T) ∨ (term b T p ≠ s + 3 ∧ X12_has s (PA σ a 0) = some (nI 0, PA σ p 0)) := by
  rw [m_has h.1 ha hp h7 hs]
  by_cases c : term b T p = s + 3
  · have hl := term_lt (b := b) (T := T) (p := p) (by omega)
    rw [if_pos c]
    exact Or.inl ⟨c, rfl, hl, (tEnd_le hl).2⟩
  · rw [if_neg c]
    exact Or.inr ⟨c, rfl⟩
theorem MSt.pan (h : MSt σ0 b T t v σ) {a : Nat} : SM ((PA σ a 0) 400) v := by rw [pa_n (by decide)]; exact h.2.2.2.2.1
theorem pa_only {σ τ : Mem} {a d : Nat} (h : ∀ c, c ≠ 400 → τ c = PA σ a d c) : τ = PA (sr σ 400 (τ 400)) a d := by
  funext c
  by_cases e : c = 400
  · subst e
    rw [pa_n (by decide), sr_s]
  · rw [h c e]
    unfold PA
    by_cases e2 : c = 399
    · subst e2
      funext i
      rw [st_ap, st_ap, st_ap, st_ap, sr_n (by decide)]
    · rw [st_n e2, st_n e2, st_n e2, st_n e2, sr_n e]
/-- a street with this told more -/
theorem MSt.told (h : MSt σ0 b T t v σ) {a : Nat} (hle : a ≤ T) {v2 : View} {τ : Mem} (hc : ∀ c, c ≠ 400 → τ c = PA σ a 0 c) (W2 : WF v2) (M2 : SM (τ 400) v2) (ht : (v2.txt, v2.texts) = (v.txt, v.texts)) : SlR σ0 b T t (some τ) (skp b T a, some v2) := by
  obtain ⟨h1, h9, h2, h3, h4, h5, h6⟩ := h
  left
  refine ⟨v2, sr σ 400 (τ 400), a, rfl, by rw [← pa_only hc], hle, rfl, h1.tape h9 (sr_n (by decide)) (by rw [sr_n (by decide)]) (by rw [sr_n (by decide)]), by rw [sr_n (by decide)]; exact h9, by rw [sr_n (by decide)]; exact h2, W2, by rw [sr_s]; exact M2, by rw [ht]; exact h5, fun c hc => by rw [sr_n hc, h6 c hc]⟩
theorem SlR.flt {r : Option Mem} {f : Nat} (h : ∃ τ, r = some τ ∧ FS σ0 b T t f τ) : SlR σ0 b T t r (f, none) := by
  obtain ⟨τ, h1, h2⟩ := h
  exact Or.inr ⟨τ, h1, h2, Or.inl rfl⟩
theorem m_tells (h : MSt σ0 b T t v σ) (ha : a ≤ T) (hp : skp b T a = p) {i hi : Nat} (hi31 : hi < 2 ^ 31) (h888 : i < 888) {upv : Nat → View} (hu : ∀ n, n ≤ hi → WF (upv n) ∧ SM (upd (σ 400) i (nI n)) (upv n) ∧ ((upv n).txt, (upv n).texts) = (v.txt, v.texts)) : SlR σ0 b T t (X12_tells (nI i) 0 (nI hi) (PA σ a 0)) (prB (lpFig b T (nI hi) p) (fun z s => (s, some (upv z)))) := by
  have hT := h.1.1
  unfold X12_tells
  rcases m_fig h ha hp (nI hi) with ⟨n, f1, f2, f3, f4, f5⟩ | ⟨f1, r, τ, f2, f3⟩
  · have hn := (nI_leI (by omega) hi31).mp f4
    obtain ⟨u1, u2, u3⟩ := hu n hn
    rw [f1, f2, bd2_s, if_pos (h.m1.mpr trivial), m_set h888, bd_s, prB_s]
    refine h.told f3 (fun c hc => st_n hc) u1 ?_ u3
    rw [st_s, pa_n (by decide)]
    exact u2
  · rw [f1, f2, bd2_s, if_neg (fun z => (f3.m1 hT).mp z), prB_n]
    exact SlR.flt ⟨τ, rfl, f3⟩
theorem m_way (h : MSt σ0 b T t v σ) (ha : a ≤ T) (hp : skp b T a = p) : SlR σ0 b T t (X12_wayLine (PA σ a 0)) (spWay b T v p) := by
  have hT := h.1.1
  have W := h.2.2.2.1
  have h9 := W.n9
  have hle := skp_le (b := b) ha
  rw [hp] at hle
  unfold X12_wayLine spWay X12_wayLine_51
  rw [show (3 : Int32) = nI 3 from rfl, a_n h.pan, bd_s]
  rcases m_fig h ha hp (nI v.n - 1) with ⟨x, f1, f2, f3, f4, f5⟩ | ⟨f1, r, τ, f2, f3⟩
  · have hx := lt_pred (by omega) (by omega) f4
    have hn := (skp_le (b := b) f3)
    rw [f1, f2, bd2_s, m_here h.1 f3, bd2_s, a_n h.pan, bd_s, prB_s]
    show SlR σ0 b T t (bd2 (X12_figures 0 (nI v.n - 1) (PA σ (nx b T p) 0)) _) _
    have hnx : nx b T p ≤ T := hn.2
    rcases m_fig h hnx (show skp b T (nx b T p) = nx b T p from skp_id f3) (nI v.n - 1) with ⟨y, g1, g2, g3, g4, g5⟩ | ⟨g1, r, τ, g2, g3⟩
    · have hy := lt_pred (by omega) (by omega) g4
      rw [g1, g2, bd2_s, if_pos (h.m1.mpr trivial), prB_s]
      by_cases d : y = x
      · obtain ⟨τ, w1, w2⟩ := h.w (f := nx b T p) (a := tEnd b T (nx b T p)) hnx g3
        rw [if_pos (by rw [d]), if_pos d, show X12_wrong (nI (skp b T (tEnd b T p))) _ = _ from w1, bd_s, if_neg (fun z => (w2.m1 hT).mp z)]
        exact SlR.flt ⟨τ, rfl, w2⟩
      · rw [if_neg (fun z => d (nI_inj (by omega) (by omega) z).symm), if_neg d, if_pos (h.m1.mpr trivial)]
        obtain ⟨τ, s1, s2, s3⟩ := m_ways W (h.pan (a := tEnd b T (nx b T p))) hx hy (x := true)
        rw [show (1 : Int32) = b2i true from rfl, s1, bd_s]
        exact h.told g3 s3 (W.wayd (fun z => d z.symm)) s2 (by simp only [VR])
    · rw [g1, g2, bd2_s, if_neg (fun z => (g3.m1 hT).mp z), if_neg (fun z => (g3.m1 hT).mp z), prB_n]
      exact SlR.flt ⟨τ, rfl, g3⟩
  · obtain ⟨r2, τ2, u1, u2⟩ := f3.here
    obtain ⟨y, hy⟩ := ag_any (τ := τ2) (i := 3) (by omega)
    rw [f1, f2, bd2_s, u1, bd2_s, hy, bd_s, u2.fig hT, bd2_s, if_neg (fun z => (u2.m1 hT).mp z), if_neg (fun z => (u2.m1 hT).mp z), prB_n]
    exact SlR.flt ⟨τ2, rfl, u2⟩
theorem m_likesL (h : MSt σ0 b T t v σ) (ha : a ≤ T) (hp : skp b T a = p) : SlR σ0 b T t (X12_likesLine (PA σ a 0)) (spLike b T v p) := by
  have hT := h.1.1
  have W := h.2.2.2.1
  have h6 := W.k6
  have hle := skp_le (b := b) ha
  rw [hp] at hle
  unfold X12_likesLine spLike X12_likesLine_51
  rw [show (4 : Int32) = nI 4 from rfl, a_k h.pan, bd_s]
  rcases m_fig h ha hp (nI v.k - 1) with ⟨x, f1, f2, f3, f4, f5⟩ | ⟨f1, r, τ, f2, f3⟩
  · have hx := lt_pred (by omega) (by omega) f4
    have hn := (skp_le (b := b) f3)
    rw [f1, f2, bd2_s, m_here h.1 f3, bd2_s, a_k h.pan, bd_s, prB_s]
    show SlR σ0 b T t (bd2 (X12_figures 0 (nI v.k - 1) (PA σ (nx b T p) 0)) _) _
    have hnx : nx b T p ≤ T := hn.2
    rcases m_fig h hnx (show skp b T (nx b T p) = nx b T p from skp_id f3) (nI v.k - 1) with ⟨y, g1, g2, g3, g4, g5⟩ | ⟨g1, r, τ, g2, g3⟩
    · have hy := lt_pred (by omega) (by omega) g4
      rw [g1, g2, bd2_s, if_pos (h.m1.mpr trivial), prB_s]
      by_cases d : y = x
      · obtain ⟨τ, w1, w2⟩ := h.w (f := nx b T p) (a := tEnd b T (nx b T p)) hnx g3
        rw [if_pos (by rw [d]), if_pos d, show X12_wrong (nI (skp b T (tEnd b T p))) _ = _ from w1, bd_s, w2.fig hT, bd2_s, if_neg (fun z => (w2.m1 hT).mp z)]
        exact SlR.flt ⟨τ, rfl, w2⟩
      · rw [if_neg (fun z => d (nI_inj (by omega) (by omega) z).symm), if_neg d]
        rcases m_fig h g3 (show skp b T (tEnd b T (nx b T p)) = nx b T (nx b T p) from rfl) 9 with ⟨z, q1, q2, q3, q4, q5⟩ | ⟨q1, r, τ, q2, q3⟩
        · have hz : z ≤ 9 := (nI_leI (b := 9) (by omega) (by omega)).mp q4
          rw [q1, q2, bd2_s, if_pos (h.m1.mpr trivial), show (152 : Int32) = nI 152 from rfl, show (6 : Int32) = nI 6 from rfl, nI_mul, nI_add, nI_add, m_set (by omega), bd_s, prB_s]
          refine h.told q3 (fun c hc => st_n hc) (W.liked (fun z => d z.symm) hz) ?_ (by simp only [VR])
          rw [st_s, pa_n (by decide)]
          exact h.2.2.2.2.1.s_like W.n9 h6 W.log hx hy z
        · rw [q1, q2, bd2_s, if_neg (fun z => (q3.m1 hT).mp z), prB_n]
          exact SlR.flt ⟨τ, rfl, q3⟩
    · rw [g1, g2, bd2_s, if_neg (fun z => (g3.m1 hT).mp z), g3.fig hT, bd2_s, if_neg (fun z => (g3.m1 hT).mp z), prB_n]
      exact SlR.flt ⟨τ, rfl, g3⟩
  · obtain ⟨r2, τ2, u1, u2⟩ := f3.here
    obtain ⟨y, hy⟩ := ag_any (τ := τ2) (i := 4) (by omega)
    rw [f1, f2, bd2_s, u1, bd2_s, hy, bd_s, u2.fig hT, bd2_s, if_neg (fun z => (u2.m1 hT).mp z), u2.fig hT, bd2_s, if_neg (fun z => (u2.m1 hT).mp z), prB_n]
    exact SlR.flt ⟨τ2, rfl, u2⟩
/-! panes and walkers are written down -/
theorem m_addP (W : WF v) (M : SM (τ 400) v) (h12 : τ 399 12 = -1) (hn : v.n < 9) {o : Nat} {lit : Bool} {y : Int32} (hy : (y = 0 ∧ lit = false) ∨ (y = 1 ∧ lit = true)) : ∃ τ2, X12_paneLine_97 (nI o) y τ = some τ2 ∧ (∀ c, c ≠ 400 → τ2 c = τ c) ∧ SM (τ2 400) (v.addP o lit) := by
  have h6 := W.k6
  have hlog := W.log
  have lays : ∀ (ρ : Mem) (i x : Nat) (y : Int32), i < 9 → x < 4 → X12_lays (nI i) (nI x) y ρ = some (st ρ 400 (11 + 4 * i + x) y) := by
    intro ρ i x y hi hx
    unfold X12_lays
    rw [show (11 : Int32) = nI 11 from rfl, show (4 : Int32) = nI 4 from rfl, nI_mul, nI_add, nI_add, m_set (by omega), bd_s]
  generalize hτ1 : st (st (st (st τ 400 (11 + 4 * v.n + 0) (nI o)) 400 (11 + 4 * v.n + 1) (b2i lit)) 400 (11 + 4 * v.n + 2) (-1)) 400 (11 + 4 * v.n + 3) 0 = τ1
  have c1 : ∀ c, c ≠ 400 → τ1 c = τ c := fun c hc => by rw [← hτ1, st_n hc, st_n hc, st_n hc, st_n hc]
  have g1 : ∀ i, τ1 400 i = if i = 11 + 4 * v.n then nI o else if i = 11 + 4 * v.n + 1 then b2i lit else if i = 11 + 4 * v.n + 2 then -1 else if i = 11 + 4 * v.n + 3 then 0 else τ 400 i := by
    intro i
    rw [← hτ1]
    by_cases e3 : i = 11 + 4 * v.n + 3
    · rw [e3, st_at, if_neg (by omega), if_neg (by omega), if_neg (by omega), if_pos rfl]
    · rw [st_at' e3]
      by_cases e2 : i = 11 + 4 * v.n + 2
      · rw [e2, st_at, if_neg (by omega), if_neg (by omega), if_pos rfl]
      · rw [st_at' e2]
        by_cases e1 : i = 11 + 4 * v.n + 1
        · rw [e1, st_at, if_neg (by omega), if_pos rfl]
        · rw [st_at' e1]
          by_cases e0 : i = 11 + 4 * v.n
          · rw [e0, show 11 + 4 * v.n + 0 = 11 + 4 * v.n from rfl, st_at, if_pos rfl]
          · rw [show 11 + 4 * v.n + 0 = 11 + 4 * v.n from rfl, st_at' e0, if_neg e0, if_neg e1, if_neg e2, if_neg e3]
  have eA : X12_paneLine_97 (nI o) y τ = X12_paneLine_158 FU (nI v.n) 0 τ1 := by
    have tail : ∀ ρ : Mem, ρ = st τ 400 (11 + 4 * v.n + 0) (nI o) → ∀ y3, y3 = b2i lit → X12_paneLine_136 (nI v.n) (nI v.n) 1 y3 ρ = X12_paneLine_158 FU (nI v.n) 0 τ1 := by
      intro ρ hρ y3 h3
      unfold X12_paneLine_136
      rw [show (1 : Int32) = nI 1 from rfl, lays _ _ _ _ hn (by omega), bd_s, show (2 : Int32) = nI 2 from rfl, lays _ _ _ _ hn (by omega), bd_s, show (3 : Int32) = nI 3 from rfl, lays _ _ _ _ hn (by omega), bd_s, hρ, h3]
      exact congrArg (X12_paneLine_158 FU (nI v.n) 0) hτ1
    unfold X12_paneLine_97
    rw [if_pos h12, show (3 : Int32) = nI 3 from rfl, a_n M, bd_s, show (0 : Int32) = nI 0 from rfl, lays _ _ _ _ hn (by omega), bd_s]
    rcases hy with ⟨rfl, hl⟩ | ⟨rfl, hl⟩
    · rw [if_pos (show (0 : Int32) = nI 0 from rfl)]; exact tail _ rfl (nI 0) (by rw [hl]; rfl)
    · rw [if_neg (by decide)]; exact tail _ rfl 1 (by rw [hl]; rfl)
  have ways : ∀ (ρ : Mem) (p q : Nat), p < 9 → q < 9 → X12_ways (nI p) (nI q) 0 ρ = some (st (st ρ 400 (47 + 9 * p + q) (nI 0)) 400 (47 + 9 * q + p) (nI 0)) := by
    intro ρ p q hp hq
    have ix : ∀ p q, ((47 : Int32) + ((9 : Int32) * nI p)) + nI q = nI (47 + 9 * p + q) := fun p q => by
      rw [show (47 : Int32) = nI 47 from rfl, show (9 : Int32) = nI 9 from rfl, nI_mul, nI_add, nI_add]
    unfold X12_ways
    rw [ix, ix, m_set (by omega), bd_s, m_set (by omega), bd_s]; rfl
  rw [eA, show (0 : Int32) = nI 0 from rfl]
  refine loop_P (L := fun f (m : Mem) x => X12_paneLine_158 f (nI v.n) x m) (P := fun x m => (∀ c, c ≠ 400 → m c = τ c) ∧ (∀ i, i < 47 ∨ 128 ≤ i → m 400 i = τ1 400 i) ∧ ∀ p q, p < 9 → q < 9 → m 400 (47 + 9 * p + q) = if (p = v.n ∧ q < x) ∨ (q = v.n ∧ p < x) then nI 0 else τ 400 (47 + 9 * p + q)) (Q := fun r => ∃ τ2, r = some τ2 ∧ (∀ c, c ≠ 400 → τ2 c = τ c) ∧ SM (τ2 400) (v.addP o lit)) (n := 9) (a := τ1) (fun f m hP => ?_) (fun f m x hx hP => Or.inr ?_) (Nat.zero_le _) (FUb (by omega)) ⟨c1, fun _ _ => rfl, fun p q hp hq => by rw [if_neg (by omega), g1, if_neg (by omega), if_neg (by omega), if_neg (by omega), if_neg (by omega)]⟩
  · obtain ⟨p1, p2, p3⟩ := hP
    have e3 : m 400 3 = nI v.n := by rw [p2 3 (by omega), g1, if_neg (by omega), if_neg (by omega), if_neg (by omega), if_neg (by omega)]; exact M.n
    refine ⟨st m 400 3 (nI (v.n + 1)), ?_, fun c hc => by rw [st_n hc, p1 c hc], ?_⟩
    · rw [X12_paneLine_158, if_pos (by decide), show (3 : Int32) = nI 3 from rfl, m_at (by omega), bd_s, e3, nI_1, m_set (by omega), bd_s]
    · have g : ∀ i, i ≠ 3 → (i < 11 + 4 * v.n ∨ 15 + 4 * v.n ≤ i) → (i < 47 ∨ 128 ≤ i) → st m 400 3 (nI (v.n + 1)) 400 i = τ 400 i := fun i i1 i2 i3 => by rw [st_at' i1, p2 i i3, g1, if_neg (by omega), if_neg (by omega), if_neg (by omega), if_neg (by omega)]
      have gp : ∀ i, 11 ≤ i → i < 47 → st m 400 3 (nI (v.n + 1)) 400 i = τ1 400 i := fun i i1 i2 => by rw [st_at' (by omega), p2 i (by omega)]
      unfold View.addP
      unfold SM
      simp only [VR]
      refine ⟨by rw [g _ (by omega) (by omega) (by omega)]; exact M.texts, by rw [st_at], by rw [g _ (by omega) (by omega) (by omega)]; exact M.k, by rw [g _ (by omega) (by omega) (by omega)]; exact M.hour, by rw [g _ (by omega) (by omega) (by omega)]; exact M.night, by rw [g _ (by omega) (by omega) (by omega)]; exact M.fog, by rw [g _ (by omega) (by omega) (by omega)]; exact M.mist, by rw [g _ (by omega) (by omega) (by omega)]; exact M.logs, by rw [g _ (by omega) (by omega) (by omega)]; exact M.seed, fun q hq => ?_, fun q hq => ?_, fun q hq => ?_, fun q hq => ?_, fun p q hp hq => ?_, fun w hw => by rw [g _ (by omega) (by omega) (by omega)]; exact M.pl w hw, fun w hw => by rw [g _ (by omega) (by omega) (by omega)]; exact M.tp w hw, fun w hw => by rw [g _ (by omega) (by omega) (by omega)]; exact M.hd w hw, fun w hw => by rw [g _ (by omega) (by omega) (by omega)]; exact M.lt w hw, fun w o hw ho => by rw [g _ (by omega) (by omega) (by omega)]; exact M.like w o hw ho, fun i r hi => ?_, fun i hi => by rw [g _ (by omega) (by omega) (by omega)]; exact M.txt i hi⟩
      · rw [gp _ (by omega) (by omega), g1]
        by_cases c : q = v.n
        · rw [if_pos c, if_pos (by omega)]
        · rw [if_neg c, if_neg (by omega), if_neg (by omega), if_neg (by omega), if_neg (by omega)]; exact M.oil q (by omega)
      · rw [gp _ (by omega) (by omega), g1]
        by_cases c : q = v.n
        · rw [if_pos c, if_neg (by omega), if_pos (by omega)]
        · rw [if_neg c, if_neg (by omega), if_neg (by omega), if_neg (by omega), if_neg (by omega)]; exact M.burn q (by omega)
      · rw [gp _ (by omega) (by omega), g1]
        by_cases c : q = v.n
        · rw [if_pos c, if_neg (by omega), if_neg (by omega), if_pos (by omega)]; rfl
        · rw [if_neg c, if_neg (by omega), if_neg (by omega), if_neg (by omega), if_neg (by omega)]; exact M.own q (by omega)
      · rw [gp _ (by omega) (by omega), g1]
        by_cases c : q = v.n
        · rw [if_pos c, if_neg (by omega), if_neg (by omega), if_neg (by omega), if_pos (by omega)]; rfl
        · rw [if_neg c, if_neg (by omega), if_neg (by omega), if_neg (by omega), if_neg (by omega)]; exact M.dark q (by omega)
      · rw [st_at' (by omega), p3 p q (by omega) (by omega)]
        by_cases c : p = v.n ∨ q = v.n
        · rw [if_pos c, if_pos (by omega)]; rfl
        · rw [if_neg c, if_neg (by omega)]; exact M.way p q (by omega) (by omega)
      · have hi2 := (List.getElem?_eq_some_iff.mp hi).1
        rw [g _ (by omega) (by omega) (by omega), g _ (by omega) (by omega) (by omega), g _ (by omega) (by omega) (by omega), g _ (by omega) (by omega) (by omega), g _ (by omega) (by omega) (by omega)]
        exact M.log i r hi
  · obtain ⟨p1, p2, p3⟩ := hP
    refine ⟨st (st m 400 (47 + 9 * v.n + x) (nI 0)) 400 (47 + 9 * x + v.n) (nI 0), ?_, fun c hc => by rw [st_n hc, st_n hc, p1 c hc], fun i hi => by rw [st_at' (by omega), st_at' (by omega), p2 i hi], fun p q hp hq => ?_⟩
    · rw [X12_paneLine_158, if_neg (show ¬ (9 : Int32) ≤ nI x from nI_ge (b := 9) (by omega) (by omega)), ways _ _ _ hn hx, bd_s, nI_1]
    · by_cases e1 : q = v.n ∧ p = x
      · rw [e1.1, e1.2, st_at, if_pos (Or.inr ⟨rfl, by omega⟩)]
      · rw [st_at' (by omega)]
        by_cases e2 : p = v.n ∧ q = x
        · rw [e2.1, e2.2, st_at, if_pos (Or.inl ⟨rfl, by omega⟩)]
        · rw [st_at' (by omega), p3 p q hp hq]
          by_cases e3 : (p = v.n ∧ q < x) ∨ (q = v.n ∧ p < x)
          · rw [if_pos e3, if_pos (by omega)]
          · rw [if_neg e3, if_neg (by omega)]
theorem m_addW (W : WF v) (M : SM (τ 400) v) (h12 : τ 399 12 = -1) (hk : v.k < 6) {x q : Nat} {ow hd : Option Nat} (how : ∀ p, ow = some p → p < v.n) : ∃ τ2, X12_walkerLine_142 (nI x) (nI q) (oI ow) (oI hd) τ = some τ2 ∧ (∀ c, c ≠ 400 → τ2 c = τ c) ∧ SM (τ2 400) (v.addW x q ow hd) := by
  have h9 := W.n9
  have hlog := W.log
  have ix : ∀ i y, (((128 : Int32) + ((4 : Int32) * nI i)) + nI y) = nI (128 + 4 * i + y) := fun i y => by
    rw [show (128 : Int32) = nI 128 from rfl, show (4 : Int32) = nI 4 from rfl, nI_mul, nI_add, nI_add]
  have lays : ∀ (ρ : Mem) (i x : Nat) (y : Int32), i < 9 → x < 4 → X12_lays (nI i) (nI x) y ρ = some (st ρ 400 (11 + 4 * i + x) y) := by
    intro ρ i x y hi hx
    unfold X12_lays
    rw [show (11 : Int32) = nI 11 from rfl, show (4 : Int32) = nI 4 from rfl, nI_mul, nI_add, nI_add, m_set (by omega), bd_s]
  generalize hτ1 : st (st (st (st τ 400 (128 + 4 * v.k + 0) (nI x)) 400 (128 + 4 * v.k + 1) (nI q)) 400 (128 + 4 * v.k + 2) (oI hd)) 400 (128 + 4 * v.k + 3) (nI 0) = τ1
  have c1 : ∀ c, c ≠ 400 → τ1 c = τ c := fun c hc => by rw [← hτ1, st_n hc, st_n hc, st_n hc, st_n hc]
  have g1 : ∀ i, τ1 400 i = if i = 128 + 4 * v.k then nI x else if i = 128 + 4 * v.k + 1 then nI q else if i = 128 + 4 * v.k + 2 then oI hd else if i = 128 + 4 * v.k + 3 then nI 0 else τ 400 i := by
    intro i
    rw [← hτ1]
    by_cases e3 : i = 128 + 4 * v.k + 3
    · rw [e3, st_at, if_neg (by omega), if_neg (by omega), if_neg (by omega), if_pos rfl]
    · rw [st_at' e3]
      by_cases e2 : i = 128 + 4 * v.k + 2
      · rw [e2, st_at, if_neg (by omega), if_neg (by omega), if_pos rfl]
      · rw [st_at' e2]
        by_cases e1 : i = 128 + 4 * v.k + 1
        · rw [e1, st_at, if_neg (by omega), if_pos rfl]
        · rw [st_at' e1]
          by_cases e0 : i = 128 + 4 * v.k
          · rw [e0, show 128 + 4 * v.k + 0 = 128 + 4 * v.k from rfl, st_at, if_pos rfl]
          · rw [show 128 + 4 * v.k + 0 = 128 + 4 * v.k from rfl, st_at' e0, if_neg e0, if_neg e1, if_neg e2, if_neg e3]
  have main : ∀ τ3 : Mem, (∀ c, c ≠ 400 → τ3 c = τ c) → (∀ i, i < 11 ∨ 47 ≤ i → τ3 400 i = τ1 400 i) → (∀ p, p < v.n → ∀ y, y < 4 → τ3 400 (11 + 4 * p + y) = if y = 2 ∧ ow = some p then nI v.k else τ 400 (11 + 4 * p + y)) → ∃ τ2, X12_walkerLine_241 (nI v.k) τ3 = some τ2 ∧ (∀ c, c ≠ 400 → τ2 c = τ c) ∧ SM (τ2 400) (v.addW x q ow hd) := by
    intro τ3 c3 g3 g4
    unfold X12_walkerLine_241
    rw [show (0 : Int32) = nI 0 from rfl]
    refine loop_P (L := fun f (m : Mem) y => X12_walkerLine_244 f (nI v.k) y m) (P := fun y m => (∀ c, c ≠ 400 → m c = τ c) ∧ (∀ i, i < 152 ∨ 188 ≤ i → m 400 i = τ3 400 i) ∧ ∀ w o, w < 6 → o < 6 → m 400 (152 + 6 * w + o) = if (w = v.k ∧ o < y) ∨ (o = v.k ∧ w < y) then nI 5 else τ 400 (152 + 6 * w + o)) (Q := fun r => ∃ τ2, r = some τ2 ∧ (∀ c, c ≠ 400 → τ2 c = τ c) ∧ SM (τ2 400) (v.addW x q ow hd)) (n := 6) (a := τ3) (fun f m hP => ?_) (fun f m y hy hP => Or.inr ?_) (Nat.zero_le _) (FUb (by omega)) ⟨c3, fun _ _ => rfl, fun w o hw ho => by rw [if_neg (by omega), g3 _ (by omega), g1, if_neg (by omega), if_neg (by omega), if_neg (by omega), if_neg (by omega)]⟩
    · obtain ⟨p1, p2, p3⟩ := hP
      have e4 : m 400 4 = nI v.k := by rw [p2 4 (by omega), g3 4 (by omega), g1, if_neg (by omega), if_neg (by omega), if_neg (by omega), if_neg (by omega)]; exact M.k
      refine ⟨st m 400 4 (nI (v.k + 1)), ?_, fun c hc => by rw [st_n hc, p1 c hc], ?_⟩
      · rw [X12_walkerLine_244, if_pos (by decide), show (4 : Int32) = nI 4 from rfl, m_at (by omega), bd_s, e4, nI_1, m_set (by omega), bd_s]
      · have g : ∀ i, i ≠ 4 → (i < 11 ∨ 47 ≤ i) → (i < 128 + 4 * v.k ∨ 132 + 4 * v.k ≤ i) → (i < 152 ∨ 188 ≤ i) → st m 400 4 (nI (v.k + 1)) 400 i = τ 400 i := fun i i1 i2 i3 i4 => by rw [st_at' i1, p2 i i4, g3 i i2, g1, if_neg (by omega), if_neg (by omega), if_neg (by omega), if_neg (by omega)]
        have gw : ∀ i, 128 ≤ i → i < 152 → st m 400 4 (nI (v.k + 1)) 400 i = τ1 400 i := fun i i1 i2 => by rw [st_at' (by omega), p2 i (by omega), g3 i (by omega)]
        have gp : ∀ p, p < v.n → ∀ y, y < 4 → st m 400 4 (nI (v.k + 1)) 400 (11 + 4 * p + y) = if y = 2 ∧ ow = some p then nI v.k else τ 400 (11 + 4 * p + y) := fun p hp y hy => by rw [st_at' (by omega), p2 _ (by omega)]; exact g4 p hp y hy
        unfold View.addW
        unfold SM
        simp only [VR]
        refine ⟨by rw [g _ (by omega) (by omega) (by omega) (by omega)]; exact M.texts, by rw [g _ (by omega) (by omega) (by omega) (by omega)]; exact M.n, by rw [st_at], by rw [g _ (by omega) (by omega) (by omega) (by omega)]; exact M.hour, by rw [g _ (by omega) (by omega) (by omega) (by omega)]; exact M.night, by rw [g _ (by omega) (by omega) (by omega) (by omega)]; exact M.fog, by rw [g _ (by omega) (by omega) (by omega) (by omega)]; exact M.mist, by rw [g _ (by omega) (by omega) (by omega) (by omega)]; exact M.logs, by rw [g _ (by omega) (by omega) (by omega) (by omega)]; exact M.seed, fun p hp => by rw [show 11 + 4 * p = 11 + 4 * p + 0 from rfl, gp p hp 0 (by omega), if_neg (by omega)]; exact M.oil p hp, fun p hp => by rw [gp p hp 1 (by omega), if_neg (by omega)]; exact M.burn p hp, fun p hp => ?_, fun p hp => by rw [gp p hp 3 (by omega), if_neg (by omega)]; exact M.dark p hp, fun p q hp hq => by rw [g _ (by omega) (by omega) (by omega) (by omega)]; exact M.way p q hp hq, fun w hw => ?_, fun w hw => ?_, fun w hw => ?_, fun w hw => ?_, fun w o hw ho => ?_, fun i r hi => ?_, fun i hi => by rw [g _ (by omega) (by omega) (by omega) (by omega)]; exact M.txt i hi⟩
        · rw [gp p hp 2 (by omega)]
          by_cases c : ow = some p
          · rw [if_pos ⟨rfl, c⟩, if_pos c]; rfl
          · rw [if_neg (fun z => c z.2), if_neg c]; exact M.own p hp
        · rw [gw _ (by omega) (by omega), g1]
          by_cases c : w = v.k
          · rw [if_pos c, if_pos (by omega)]
          · rw [if_neg c, if_neg (by omega), if_neg (by omega), if_neg (by omega), if_neg (by omega)]; exact M.pl w (by omega)
        · rw [gw _ (by omega) (by omega), g1]
          by_cases c : w = v.k
          · rw [if_pos c, if_neg (by omega), if_pos (by omega)]
          · rw [if_neg c, if_neg (by omega), if_neg (by omega), if_neg (by omega), if_neg (by omega)]; exact M.tp w (by omega)
        · rw [gw _ (by omega) (by omega), g1]
          by_cases c : w = v.k
          · rw [if_pos c, if_neg (by omega), if_neg (by omega), if_pos (by omega)]
          · rw [if_neg c, if_neg (by omega), if_neg (by omega), if_neg (by omega), if_neg (by omega)]; exact M.hd w (by omega)
        · rw [gw _ (by omega) (by omega), g1]
          by_cases c : w = v.k
          · rw [if_pos c, if_neg (by omega), if_neg (by omega), if_neg (by omega), if_pos (by omega)]
          · rw [if_neg c, if_neg (by omega), if_neg (by omega), if_neg (by omega), if_neg (by omega)]; exact M.lt w (by omega)
        · rw [st_at' (by omega), p3 w o (by omega) (by omega)]
          by_cases c : w = v.k ∨ o = v.k
          · rw [if_pos c, if_pos (by omega)]
          · rw [if_neg c, if_neg (by omega)]; exact M.like w o (by omega) (by omega)
        · have hi2 := (List.getElem?_eq_some_iff.mp hi).1
          rw [g _ (by omega) (by omega) (by omega) (by omega), g _ (by omega) (by omega) (by omega) (by omega), g _ (by omega) (by omega) (by omega) (by omega), g _ (by omega) (by omega) (by omega) (by omega), g _ (by omega) (by omega) (by omega) (by omega)]
          exact M.log i r hi
    · obtain ⟨p1, p2, p3⟩ := hP
      have i6 : ∀ i y, (((152 : Int32) + ((6 : Int32) * nI i)) + nI y) = nI (152 + 6 * i + y) := fun i y => by
        rw [show (152 : Int32) = nI 152 from rfl, show (6 : Int32) = nI 6 from rfl, nI_mul, nI_add, nI_add]
      refine ⟨st (st m 400 (152 + 6 * v.k + y) (nI 5)) 400 (152 + 6 * y + v.k) (nI 5), ?_, fun c hc => by rw [st_n hc, st_n hc, p1 c hc], fun i hi => by rw [st_at' (by omega), st_at' (by omega), p2 i hi], fun w o hw ho => ?_⟩
      · rw [X12_walkerLine_244, if_neg (show ¬ (6 : Int32) ≤ nI y from nI_ge (b := 6) (by omega) (by omega)), i6, m_set (by omega), bd_s, i6, m_set (by omega), bd_s, nI_1]; rfl
      · by_cases e1 : o = v.k ∧ w = y
        · rw [e1.1, e1.2, st_at, if_pos (Or.inr ⟨rfl, by omega⟩)]
        · rw [st_at' (by omega)]
          by_cases e2 : w = v.k ∧ o = y
          · rw [e2.1, e2.2, st_at, if_pos (Or.inl ⟨rfl, by omega⟩)]
          · rw [st_at' (by omega), p3 w o hw ho]
            by_cases e3 : (w = v.k ∧ o < y) ∨ (o = v.k ∧ w < y)
            · rw [if_pos e3, if_pos (by omega)]
            · rw [if_neg e3, if_neg (by omega)]
  unfold X12_walkerLine_142
  rw [if_pos h12, show (4 : Int32) = nI 4 from rfl, a_k M, bd_s, show (0 : Int32) = nI 0 from rfl, show (1 : Int32) = nI 1 from rfl, show (2 : Int32) = nI 2 from rfl, show (3 : Int32) = nI 3 from rfl]
  rw [show nI 4 = (4 : Int32) from rfl, ix, m_set (by omega), bd_s, ix, m_set (by omega), bd_s, ix, m_set (by omega), bd_s, ix, m_set (by omega), bd_s, hτ1]
  have gb : ∀ p, p < v.n → ∀ y, y < 4 → τ1 400 (11 + 4 * p + y) = τ 400 (11 + 4 * p + y) := fun p hp y hy => by rw [g1, if_neg (by omega), if_neg (by omega), if_neg (by omega), if_neg (by omega)]
  cases ho : ow with
  | none =>
    rw [if_pos (show oI none = -nI 1 from rfl)]
    rw [ho] at main
    exact main τ1 c1 (fun _ _ => rfl) (fun p hp y hy => by rw [if_neg (fun z => nomatch z.2)]; exact gb p hp y hy)
  | some p0 =>
    have h0 := how p0 ho
    rw [ho] at main
    rw [if_neg (show ¬ oI (some p0) = -nI 1 from nI_m1 (by omega)), show oI (some p0) = nI p0 from rfl, lays _ _ _ _ (by omega) (by omega), bd_s]
    refine main _ (fun c hc => by rw [st_n hc, c1 c hc]) (fun i hi => by rw [st_at' (by omega)]) (fun p hp y hy => ?_)
    by_cases c : y = 2 ∧ p0 = p
    · rw [if_pos ⟨c.1, by rw [c.2]⟩, c.1, c.2, st_at]
    · rw [if_neg (fun z => c ⟨z.1, Option.some.inj z.2⟩), st_at' (by omega)]; exact gb p hp y hy
end STREET3

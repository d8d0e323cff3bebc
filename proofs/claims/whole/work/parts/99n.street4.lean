/-! the reference's lines of a street, the whole text -/
section STREET4
variable {σ σ0 σ1 σ2 τ : Mem} {v : View} {L : Lw} {b : Nat → Int32} {T N a p e k j : Nat} {t : (Nat → Int32) × Nat} {x1 x2 x3 x4 x5 : Int32}
theorem FS.any3 (h : FS σ0 b T t p τ) (hT : T ≤ 400) {x2 x4 : Int32} : X12_paneLine_97 x2 x4 τ = some τ := by
  unfold X12_paneLine_97
  rw [if_neg (fun z => (h.m1 hT).mp z)]
theorem FS.pane45 (h : FS σ0 b T t p τ) (hT : T ≤ 400) {y : Int32} : ∃ τ2, X12_paneLine_45 y τ = some τ2 ∧ FS σ0 b T t p τ2 := by
  obtain ⟨r, τ2, u1, u2⟩ := h.here
  refine ⟨τ2, ?_, u2⟩
  unfold X12_paneLine_45 X12_paneLine_72 X12_paneLine_73
  rw [u1, bd2_s, if_neg (fun z => (u2.m1 hT).mp z), if_neg (fun z => (u2.m1 hT).mp z), u2.any3 hT]
theorem m_paneT (h : MSt σ0 b T t v σ) (ha : a ≤ T) (hp : skp b T a = p) (hn : v.n < 9) {o : Nat} (ho : o ≤ 99) : SlR σ0 b T t (X12_paneLine_45 (nI o) (PA σ a 0)) (if 0 < o ∧ term b T p = 19 then (nx b T p, some (v.addP o true)) else (p, some (v.addP o false))) := by
  have hT := h.1.1
  have W := h.2.2.2.1
  have hle := skp_le (b := b) ha
  rw [hp] at hle
  have hpp : skp b T p = p := by rw [← hp, skp_id ha]
  have m12 : ∀ a, PA σ a 0 399 12 = -1 := fun a => h.m1.mpr trivial
  unfold X12_paneLine_45
  rw [m_here h.1 ha, hp, bd2_s, if_pos (m12 p)]
  have no : SlR σ0 b T t (X12_paneLine_72 (nI o) (nI p) (PA σ p 0)) (p, some (v.addP o false)) := by
    unfold X12_paneLine_72 X12_paneLine_73
    rw [if_pos (m12 p), if_pos rfl]
    obtain ⟨τ2, s1, s2, s3⟩ := m_addP W (h.pan (a := p)) (m12 p) hn (o := o) (lit := false) (y := 0) (Or.inl ⟨rfl, rfl⟩)
    rw [s1]
    have := h.told hle.2 s2 (W.addP hn ho (fun q => by cases q)) s3 addP_txt
    rw [hpp] at this
    exact this
  rcases m_hs h hle.2 hpp (s := 16) (by omega) (by omega) with ⟨c1, c2, c3, c4⟩ | ⟨c1, c2⟩
  · rw [c2, bd2_s, if_neg (by decide)]
    unfold X12_paneLine_73
    rw [if_pos (m12 _), if_neg (by decide)]
    by_cases c0 : o = 0
    · obtain ⟨τ, w1, w2⟩ := h.w (f := p) (a := tEnd b T p) hle.2 c4
      rw [if_pos (show nI o = 0 by rw [c0]; rfl), w1, bd_s, w2.any3 hT, if_neg (by omega)]
      exact Or.inr ⟨τ, rfl, w2, Or.inr ⟨c3, by show term b T p ≠ 4; omega⟩⟩
    · rw [if_neg (show ¬ nI o = 0 from fun z => c0 (nI_inj (b := 0) (by omega) (by omega) z)), if_pos ⟨by omega, c1⟩]
      obtain ⟨τ2, s1, s2, s3⟩ := m_addP W (h.pan (a := tEnd b T p)) (m12 _) hn (o := o) (lit := true) (y := 1) (Or.inr ⟨rfl, rfl⟩)
      rw [s1]
      exact h.told c4 s2 (W.addP hn ho (fun _ => by omega)) s3 addP_txt
  · rw [c2, bd2_s, if_pos (show nI 0 = 0 from rfl), if_neg (fun z => c1 z.2)]
    exact no
theorem m_pane (h : MSt σ0 b T t v σ) (ha : a ≤ T) (hp : skp b T a = p) (hn : v.n < 9) {x : Int32} : SlR σ0 b T t (X12_paneLine x (PA σ a 0)) (spPane b T v p) := by
  have hT := h.1.1
  have m12 : ∀ a, PA σ a 0 399 12 = -1 := fun a => h.m1.mpr trivial
  have hle := skp_le (b := b) ha
  rw [hp] at hle
  have hpp : skp b T p = p := by rw [← hp, skp_id ha]
  unfold X12_paneLine X12_paneLine_16 X12_paneLine_43 spPane
  rw [show (3 : Int32) = nI 3 from rfl, a_n h.pan, bd_s, if_neg (show ¬ nI v.n = 9 from fun z => by have := nI_inj (b := 9) (by omega) (by omega) z; omega), if_pos (m12 a)]
  rcases m_hs h ha hp (s := 9) (by omega) (by omega) with ⟨c1, c2, c3, c4⟩ | ⟨c1, c2⟩
  · rw [c2, bd2_s, if_neg (by decide), if_pos (show term b T p = 12 from c1)]
    rcases m_fig h c4 (show skp b T (tEnd b T p) = nx b T p from rfl) 99 with ⟨n, f1, f2, f3, f4, f5⟩ | ⟨f1, r, τ, f2, f3⟩
    · have hz : n ≤ 99 := (nI_leI (b := 99) (by omega) (by omega)).mp f4
      rw [f1, f2, bd2_s, prB_s]
      exact m_paneT h f3 rfl hn hz
    · obtain ⟨τ2, u1, u2⟩ := f3.pane45 hT (y := r)
      rw [f1, f2, bd2_s, u1, prB_n]
      exact SlR.flt ⟨τ2, rfl, u2⟩
  · rw [c2, bd2_s, if_pos (show nI 0 = 0 from rfl), if_neg (show ¬ term b T p = 12 from c1), prB_s]
    exact m_paneT (o := 20) h hle.2 hpp hn (by omega)
/-! a walker -/
theorem FS.w142 (h : FS σ0 b T t p τ) (hT : T ≤ 400) {x2 x3 x4 y : Int32} : X12_walkerLine_142 x2 x3 x4 y τ = some τ := by
  unfold X12_walkerLine_142
  rw [if_neg (fun z => (h.m1 hT).mp z)]
theorem FS.w108 (h : FS σ0 b T t p τ) (hT : T ≤ 400) {x2 x3 x4 : Int32} : X12_walkerLine_108 x2 x3 x4 τ = some τ := by
  unfold X12_walkerLine_108 X12_walkerLine_141
  rw [if_neg (fun z => (h.m1 hT).mp z), h.w142 hT]
theorem m_w108 (h : MSt σ0 b T t v σ) (ha : a ≤ T) (hp : skp b T a = p) (hk : v.k < 6) {x q : Nat} {ow : Option Nat} (hx : x < v.n) (hq : q ≤ 99) (how : ∀ p, ow = some p → p < v.n ∧ v.own p = none) : SlR σ0 b T t (X12_walkerLine_108 (nI x) (nI q) (oI ow) (PA σ a 0)) (prB (spHead b T v p) (fun hd u => (u, some (v.addW x q ow hd)))) := by
  have hT := h.1.1
  have W := h.2.2.2.1
  have h9 := W.n9
  have m12 : ∀ a, PA σ a 0 399 12 = -1 := fun a => h.m1.mpr trivial
  have hle := skp_le (b := b) ha
  rw [hp] at hle
  have hpp : skp b T p = p := by rw [← hp, skp_id ha]
  unfold X12_walkerLine_108 spHead X12_walkerLine_141
  rw [if_pos (m12 a)]
  rcases m_hs h ha hp (s := 19) (by omega) (by omega) with ⟨c1, c2, c3, c4⟩ | ⟨c1, c2⟩
  · rw [c2, bd2_s, if_neg (by decide), if_pos (show term b T p = 22 from c1), show (3 : Int32) = nI 3 from rfl, a_n h.pan, bd_s]
    rcases m_fig h c4 (show skp b T (tEnd b T p) = nx b T p from rfl) (nI v.n - 1) with ⟨n, f1, f2, f3, f4, f5⟩ | ⟨f1, r, τ, f2, f3⟩
    · have hz := lt_pred (by omega) (by omega) f4
      rw [f1, f2, bd2_s, prB_s, prB_s]
      obtain ⟨τ2, s1, s2, s3⟩ := m_addW (x := x) (q := q) (ow := ow) (hd := some n) W (h.pan (a := tEnd b T (nx b T p))) (m12 _) hk (fun p z => (how p z).1)
      rw [show nI n = oI (some n) from rfl, s1]
      exact h.told f3 s2 (W.addW hk hx hq how (fun p z => by cases z; exact hz)) s3 addW_txt
    · rw [f1, f2, bd2_s, f3.w142 hT, prB_n, prB_n]
      exact SlR.flt ⟨τ, rfl, f3⟩
  · rw [c2, bd2_s, if_pos (show nI 0 = 0 from rfl), if_neg (show ¬ term b T p = 22 from c1), prB_s]
    obtain ⟨τ2, s1, s2, s3⟩ := m_addW (x := x) (q := q) (ow := ow) (hd := none) W (h.pan (a := p)) (m12 _) hk (fun p z => (how p z).1)
    rw [show (-1 : Int32) = oI none from rfl, s1]
    have := h.told hle.2 s2 (W.addW (hd := none) hk hx hq how (fun p z => nomatch z)) s3 addW_txt
    rw [hpp] at this
    exact this
/-- a word, and a number behind it -/
theorem m_after (h : MSt σ0 b T t v σ) (ha : a ≤ T) (hp : skp b T a = p) {s : Nat} (h7 : 7 ≤ s) (hs : s < 30) (hi : Int32) : (∃ n, term b T p = s + 3 ∧ lpFig b T hi (nx b T p) = (nx b T (nx b T p), some n) ∧ X12_after s 0 hi (PA σ a 0) = some (nI n, PA σ (tEnd b T (nx b T p)) 0) ∧ tEnd b T (nx b T p) ≤ T ∧ nI n ≤ hi ∧ n ≤ 999) ∨ (∃ r τ, X12_after s 0 hi (PA σ a 0) = some (r, τ) ∧ ((term b T p = s + 3 ∧ lpFig b T hi (nx b T p) = (nx b T p, none) ∧ FS σ0 b T t (nx b T p) τ) ∨ (term b T p ≠ s + 3 ∧ FS σ0 b T t p τ))) := by
  have hT := h.1.1
  have m12 : ∀ a, PA σ a 0 399 12 = -1 := fun a => h.m1.mpr trivial
  have hle := skp_le (b := b) ha
  rw [hp] at hle
  unfold X12_after X12_after_24
  rw [if_pos (m12 a)]
  rcases m_hs h ha hp h7 hs with ⟨c1, c2, c3, c4⟩ | ⟨c1, c2⟩
  · rw [c2, bd2_s, if_neg (by decide)]
    rcases m_fig h c4 (show skp b T (tEnd b T p) = nx b T p from rfl) hi with ⟨n, f1, f2, f3, f4, f5⟩ | ⟨f1, r, τ, f2, f3⟩
    · rw [f2, bd2_s]
      exact Or.inl ⟨n, c1, f1, rfl, f3, f4, f5⟩
    · rw [f2, bd2_s]
      exact Or.inr ⟨r, τ, rfl, Or.inl ⟨c1, f1, f3⟩⟩
  · obtain ⟨τ, w1, w2⟩ := h.w (f := p) (a := p) hle.2 hle.2
    rw [c2, bd2_s, if_pos (show nI 0 = 0 from rfl), pa_a, w1, bd_s, w2.fig hT, bd2_s]
    exact Or.inr ⟨0, τ, rfl, Or.inr ⟨c1, w2⟩⟩
theorem m_walkL (h : MSt σ0 b T t v σ) (ha : a ≤ T) (hp : skp b T a = p) (hk : v.k < 6) {x : Int32} : SlR σ0 b T t (X12_walkerLine x (PA σ a 0)) (spWalk b T v p) := by
  have hT := h.1.1
  have W := h.2.2.2.1
  have h9 := W.n9
  have m12 : ∀ a, PA σ a 0 399 12 = -1 := fun a => h.m1.mpr trivial
  unfold X12_walkerLine X12_walkerLine_16 spWalk
  rw [show (4 : Int32) = nI 4 from rfl, a_k h.pan, bd_s, if_neg (show ¬ nI v.k = 6 from fun z => by have := nI_inj (b := 6) (by omega) (by omega) z; omega), show (3 : Int32) = nI 3 from rfl, a_n h.pan, bd_s]
  have done : ∀ (τ : Mem) (f : Nat) (r1 : Int32), FS σ0 b T t f τ → SlR σ0 b T t (bd2 (X12_after 11 0 99 τ) fun r38 σ38 => if (σ38 399 12) = (-1 : Int32) then bd2 (X12_has 18 σ38) fun r56 σ56 => if r56 = 0 then X12_walkerLine_108 r1 r38 (-1 : Int32) σ56 else bd2 (X12_here σ56) fun r63 σ63 => bd (ag σ63 400 (nI 3)) fun r75 => bd2 (X12_figures (0 : Int32) (r75 - (1 : Int32)) σ63) fun r78 σ78 => if (σ78 399 12) = (-1 : Int32) then bd (X12_of σ78 r78 (2 : Int32)) fun r95 => if r95 = (-1 : Int32) then X12_walkerLine_108 r1 r38 r78 σ78 else bd (X12_wrong r63 σ78) fun σ105 => X12_walkerLine_108 r1 r38 r78 σ105 else X12_walkerLine_108 r1 r38 r78 σ78 else X12_walkerLine_108 r1 r38 (-1 : Int32) σ38) (f, none) := by
    intro τ f r1 hf
    rw [hf.after hT, bd2_s, if_neg (fun z => (hf.m1 hT).mp z), hf.w108 hT]
    exact SlR.flt ⟨τ, rfl, hf⟩
  rcases m_after h ha hp (s := 17) (by omega) (by omega) (nI v.n - 1) with ⟨n, c1, c2, c3, c4, c5, c6⟩ | ⟨r, τ, c3, ⟨c1, c2, c4⟩ | ⟨c1, c4⟩⟩
  · have hn := lt_pred (by omega) (by omega) c5
    rw [c3, bd2_s, if_pos (show term b T p = 20 from c1), c2, prB_s]
    show SlR σ0 b T t _ (if term b T (nx b T (nx b T p)) = 14 then _ else _)
    rcases m_after h c4 (show skp b T (tEnd b T (nx b T p)) = nx b T (nx b T p) from rfl) (s := 11) (by omega) (by omega) 99 with ⟨q, d1, d2, d3, d4, d5, d6⟩ | ⟨r, τ, d3, ⟨d1, d2, d4⟩ | ⟨d1, d4⟩⟩
    · have hq : q ≤ 99 := (nI_leI (b := 99) (by omega) (by omega)).mp d5
      rw [d3, bd2_s, if_pos (m12 _), if_pos (show term b T (nx b T (nx b T p)) = 14 from d1), d2, prB_s]
      generalize hq3 : nx b T (nx b T (nx b T (nx b T p))) = q3
      have hs3 : skp b T (tEnd b T (nx b T (nx b T (nx b T p)))) = q3 := hq3
      have hq3T : q3 ≤ T := by rw [← hs3]; exact (skp_le d4).2
      have hqq : skp b T q3 = q3 := by rw [← hs3]; exact skp_id d4
      unfold spOwn
      rcases m_hs h d4 hs3 (s := 18) (by omega) (by omega) with ⟨u1, u2, u3, u4⟩ | ⟨u1, u2⟩
      · rw [u2, bd2_s, if_neg (by decide), m_here h.1 u4, bd2_s, show (nI 3 : Int32) = nI 3 from rfl, a_n h.pan, bd_s, if_pos (show term b T q3 = 21 from u1)]
        have hnx : nx b T q3 ≤ T := (skp_le u4).2
        show SlR σ0 b T t (bd2 (X12_figures 0 (nI v.n - 1) (PA σ (nx b T q3) 0)) _) _
        rcases m_fig h hnx (show skp b T (nx b T q3) = nx b T q3 from skp_id u4) (nI v.n - 1) with ⟨o, w1, w2, w3, w4, w5⟩ | ⟨w1, r, τ, w2, w3⟩
        · have ho := lt_pred (by omega) (by omega) w4
          rw [w1, w2, bd2_s, if_pos (m12 _), show X12_of _ (nI o) 2 = _ from o_own W (h.pan (a := tEnd b T (nx b T q3))) ho, bd_s, prB_s]
          by_cases ow : v.own o = none
          · rw [if_pos (show oI (v.own o) = -1 by rw [ow]; rfl), if_pos ow, prB_s]
            exact m_w108 (ow := some o) h w3 rfl hk hn hq (fun p z => by cases z; exact ⟨ho, ow⟩)
          · obtain ⟨τ, y1, y2⟩ := h.w (f := nx b T q3) (a := tEnd b T (nx b T q3)) hnx w3
            rw [if_neg (fun z : oI (v.own o) = -1 => ow ((own_on W ho).mp z)), if_neg ow, prB_n, show X12_wrong (nI (skp b T (tEnd b T q3))) _ = _ from y1, bd_s, y2.w108 hT]
            exact SlR.flt ⟨τ, rfl, y2⟩
        · rw [w1, w2, bd2_s, if_neg (fun z => (w3.m1 hT).mp z), w3.w108 hT, prB_n, prB_n]
          exact SlR.flt ⟨τ, rfl, w3⟩
      · rw [u2, bd2_s, if_pos (show nI 0 = 0 from rfl), if_neg (show ¬ term b T q3 = 21 from u1), prB_s]
        exact m_w108 (ow := none) h hq3T hqq hk hn hq (fun p z => nomatch z)
    · rw [d3, bd2_s, if_neg (fun z => (d4.m1 hT).mp z), d4.w108 hT, if_pos (show term b T (nx b T (nx b T p)) = 14 from d1), d2, prB_n]
      exact SlR.flt ⟨τ, rfl, d4⟩
    · rw [d3, bd2_s, if_neg (fun z => (d4.m1 hT).mp z), d4.w108 hT, if_neg (show ¬ term b T (nx b T (nx b T p)) = 14 from d1)]
      exact SlR.flt ⟨τ, rfl, d4⟩
  · rw [c3, bd2_s, if_pos (show term b T p = 20 from c1), c2, prB_n]
    exact done τ _ r c4
  · rw [c3, bd2_s, if_neg (show ¬ term b T p = 20 from c1)]
    exact done τ _ r c4
/-! a line -/
theorem m_sline (h : MSt σ0 b T t v σ) (ha : a ≤ T) (hp : skp b T a = p) : SlR σ0 b T t (X12_streetLine (PA σ a 0)) (spLine b T v p) := by
  have hT := h.1.1
  have W := h.2.2.2.1
  have h9 := W.n9
  have h6 := W.k6
  have M := h.2.2.2.2.1
  have hle := skp_le (b := b) ha
  rw [hp] at hle
  have hpp : skp b T p = p := by rw [← hp, skp_id ha]
  have so : ∀ {r : Option Mem} {pr : PR View}, SlR σ0 b T t r pr → SlR σ0 b T t (bd r fun σ => some σ) pr := by
    intro r pr hr
    rcases hr with ⟨v2, s, a2, e1, e2, e3⟩ | ⟨τ, e1, e2⟩
    · exact Or.inl ⟨v2, s, a2, e1, by rw [e2, bd_s], e3⟩
    · exact Or.inr ⟨τ, by rw [e1, bd_s], e2⟩
  have hh := fun (s : Nat) (h7 : 7 ≤ s) (hs : s < 30) => m_hs h hle.2 hpp h7 hs
  unfold X12_streetLine spLine
  rw [m_here h.1 ha, hp, bd2_s]
  rcases hh 7 (by omega) (by omega) with ⟨c1, c2, c3, c4⟩ | ⟨c1, c2⟩
  · rw [c2, bd2_s, if_neg (by decide)]
    by_cases hn : v.n < 9
    · rw [if_pos ⟨c1, hn⟩]
      exact so (m_pane h c4 rfl hn)
    · rw [if_neg (by omega), if_neg (by omega), if_neg (by omega), if_neg (by omega)]
      unfold spTime
      rw [if_neg (by omega), if_neg (by omega), if_neg (by omega)]
      unfold X12_paneLine X12_paneLine_16 X12_paneLine_43
      obtain ⟨τ, w1, w2⟩ := h.w (f := p) (a := tEnd b T p) hle.2 c4
      obtain ⟨τ2, u1, u2⟩ := w2.pane45 hT (y := 20)
      rw [show (3 : Int32) = nI 3 from rfl, a_n h.pan, bd_s, if_pos (show nI v.n = 9 by rw [show v.n = 9 by omega]; rfl), w1, bd_s, if_neg (fun z => (w2.m1 hT).mp z), u1, bd_s]
      exact SlR.flt ⟨τ2, rfl, u2⟩
  rw [c2, bd2_s, if_pos (show nI 0 = 0 from rfl)]
  have n10 : term b T p ≠ 10 := c1
  rw [if_neg (fun z : term b T p = 10 ∧ v.n < 9 => n10 z.1)]
  rcases hh 8 (by omega) (by omega) with ⟨d1, d2, d3, d4⟩ | ⟨d1, d2⟩
  · rw [d2, bd2_s, if_neg (by decide)]
    by_cases hk : v.k < 6
    · rw [if_pos ⟨d1, hk⟩]
      exact so (m_walkL h d4 rfl hk)
    · rw [if_neg (by omega), if_neg (by omega), if_neg (by omega)]
      unfold spTime
      rw [if_neg (by omega), if_neg (by omega), if_neg (by omega)]
      unfold X12_walkerLine X12_walkerLine_16
      obtain ⟨τ, w1, w2⟩ := h.w (f := p) (a := tEnd b T p) hle.2 d4
      obtain ⟨y, hy⟩ := ag_any (τ := τ) (i := 3) (by omega)
      rw [show (4 : Int32) = nI 4 from rfl, a_k h.pan, bd_s, if_pos (show nI v.k = 6 by rw [show v.k = 6 by omega]; rfl), w1, bd_s, show (3 : Int32) = nI 3 from rfl, hy, bd_s, w2.after hT, bd2_s, w2.after hT, bd2_s, if_neg (fun z => (w2.m1 hT).mp z), w2.w108 hT, bd_s]
      exact SlR.flt ⟨τ, rfl, w2⟩
  have n11 : term b T p ≠ 11 := d1
  rw [d2, bd2_s, if_pos (show nI 0 = 0 from rfl), if_neg (fun z : term b T p = 11 ∧ v.k < 6 => n11 z.1)]
  rcases hh 20 (by omega) (by omega) with ⟨e1, e2, e3, e4⟩ | ⟨e1, e2⟩
  · rw [e2, bd2_s, if_neg (by decide), if_pos (show term b T p = 23 from e1)]
    exact so (m_way h e4 rfl)
  rw [e2, bd2_s, if_pos (show nI 0 = 0 from rfl), if_neg (show ¬ term b T p = 23 from e1)]
  rcases hh 12 (by omega) (by omega) with ⟨g1, g2, g3, g4⟩ | ⟨g1, g2⟩
  · rw [g2, bd2_s, if_neg (by decide), if_pos (show term b T p = 15 from g1)]
    exact so (m_likesL h g4 rfl)
  rw [g2, bd2_s, if_pos (show nI 0 = 0 from rfl), if_neg (show ¬ term b T p = 15 from g1)]
  unfold spTime
  rcases hh 21 (by omega) (by omega) with ⟨i1, i2, i3, i4⟩ | ⟨i1, i2⟩
  · rw [i2, bd2_s, if_neg (by decide), if_pos (show term b T p = 24 from i1)]
    exact so (m_tells (i := 7) (hi := 100) (upv := fun z => v.w_fog z) h i4 rfl (by omega) (by omega) (fun n hn => ⟨(by
    unfold WF
    try simp only [VR]
    exact ⟨W.n9, W.k6, W.texts, W.hour, W.night, hn, W.oil, W.dark, W.own, W.one, W.burn, W.sym, W.irr, W.pl, W.tp, W.lt, W.hd, W.like, W.self, W.log, W.rows⟩), M.s_fog h9 h6 W.log n, by simp only [VR]⟩))
  rw [i2, bd2_s, if_pos (show nI 0 = 0 from rfl), if_neg (show ¬ term b T p = 24 from i1)]
  rcases hh 13 (by omega) (by omega) with ⟨j1, j2, j3, j4⟩ | ⟨j1, j2⟩
  · rw [j2, bd2_s, if_neg (by decide), if_pos (show term b T p = 16 from j1)]
    exact so (m_tells (i := 5) (hi := 23) (upv := fun z => v.w_hour z) h j4 rfl (by omega) (by omega) (fun n hn => ⟨(by
    unfold WF
    try simp only [VR]
    exact ⟨W.n9, W.k6, W.texts, by omega, W.night, W.fog, W.oil, W.dark, W.own, W.one, W.burn, W.sym, W.irr, W.pl, W.tp, W.lt, W.hd, W.like, W.self, W.log, W.rows⟩), M.s_hour h9 h6 W.log n, by simp only [VR]⟩))
  rw [j2, bd2_s, if_pos (show nI 0 = 0 from rfl), if_neg (show ¬ term b T p = 16 from j1)]
  rcases hh 22 (by omega) (by omega) with ⟨l1, l2, l3, l4⟩ | ⟨l1, l2⟩
  · rw [l2, bd2_s, if_neg (by decide), if_pos (show term b T p = 25 from l1)]
    exact so (m_tells (i := 6) (hi := 999) (upv := fun z => v.w_night z) h l4 rfl (by omega) (by omega) (fun n hn => ⟨(by
    unfold WF
    try simp only [VR]
    exact ⟨W.n9, W.k6, W.texts, W.hour, by omega, W.fog, W.oil, W.dark, W.own, W.one, W.burn, W.sym, W.irr, W.pl, W.tp, W.lt, W.hd, W.like, W.self, W.log, W.rows⟩), M.s_night h9 h6 W.log n, by simp only [VR]⟩))
  obtain ⟨τ, w1, w2⟩ := h.w (f := p) (a := p) hle.2 hle.2
  rw [l2, bd2_s, if_pos (show nI 0 = 0 from rfl), if_neg (show ¬ term b T p = 25 from l1), pa_a, w1, bd_s]
  exact SlR.flt ⟨τ, rfl, w2⟩
/-! the whole text -/
def SaR (σ0 : Mem) (b : Nat → Int32) (T : Nat) (t : (Nat → Int32) × Nat) (r : Option (Int32 × Mem)) (pr : PR View) : Prop := (∀ v2, pr.2 = some v2 → ∃ y σ a, r = some (y, PA σ a 0) ∧ MSt σ0 b T t v2 σ) ∧ (pr.2 = none → ∃ y τ, r = some (y, τ) ∧ FS σ0 b T t pr.1 τ)
theorem m_readS : ∀ (f fuel a p k : Nat) (v : View) (σ : Mem), 15 ≤ k + f → 16 ≤ k + fuel → k ≤ 14 → MSt σ0 b T t v σ → a ≤ T → skp b T a = p → SaR σ0 b T t (X12_read_23 fuel 0 1 (nI k) (PA σ a 0)) (rdL b T (spLine b T) 14 f k v p) := by
  intro f
  induction f with
  | zero => intro fuel a p k v σ h1 h2 h3; omega
  | succ f ih =>
    intro fuel a p k v σ h1 h2 h3 h ha hp
    have hT := h.1.1
    obtain ⟨fuel, rfl⟩ : ∃ z, fuel = z + 2 := ⟨fuel - 2, by omega⟩
    have hle := skp_le (b := b) ha
    rw [hp] at hle
    have hpp : skp b T p = p := by rw [← hp, skp_id ha]
    have stop : ∀ (τ : Mem) (x3 : Int32), X12_read_23 (fuel + 1) 0 0 x3 τ = some (x3, τ) := fun τ x3 => by rw [X12_read_23, if_pos rfl]
    have stopF : ∀ (τ : Mem) (g : Nat) (x2 x3 : Int32), FS σ0 b T t g τ → X12_read_23 (fuel + 1) 0 x2 x3 τ = some (x3, τ) := fun τ g x2 x3 hf => by
      rw [X12_read_23]
      by_cases c : x2 = 0
      · rw [if_pos c]
      · rw [if_neg c, if_neg (fun z => (hf.m1 hT).mp z)]
    have flt80 : ∀ (τ : Mem) (g : Nat) (x2 x3 : Int32), FS σ0 b T t g τ → ∃ y τ2, X12_read_80 (X12_read_23 (fuel + 1)) 0 x2 x3 τ = some (y, τ2) ∧ FS σ0 b T t g τ2 := by
      intro τ g x2 x3 hf
      obtain ⟨τ2, s1, s2⟩ := hf.skip
      refine ⟨x3 + 1, τ2, ?_, s2⟩
      unfold X12_read_80 X12_read_106
      rw [s1, bd_s, if_neg (fun z => (s2.m1 hT).mp z), stop]
    rw [X12_read_23, if_neg (by decide), if_pos (h.m1.mpr trivial), m_skip h.1 ha, bd_s, if_pos rfl, hp, rdL_s]
    unfold X12_read_51
    by_cases c1 : k = 14
    · obtain ⟨τ, w1, w2⟩ := h.w (f := p) (a := p) hle.2 hle.2
      obtain ⟨y, τ2, u1, u2⟩ := flt80 τ p 1 (nI k) w2
      rw [if_pos c1, if_pos (show nI k = 14 by rw [c1]; rfl), pa_a, w1, bd_s, u1]
      exact ⟨fun v2 e => (nomatch e), fun _ => ⟨y, τ2, rfl, u2⟩⟩
    · rw [if_neg c1, if_neg (show ¬ nI k = 14 from fun z => c1 (nI_inj (b := 14) (by omega) (by omega) z)), if_pos rfl]
      rcases m_sline h hle.2 hpp with ⟨v2, σ2, a2, s1, s2, s3, s4, s5⟩ | ⟨τ, s1, s2, s3⟩
      · have hle2 := skp_le (b := b) s3
        rw [s2, bd_s]
        have eP : prB (spLine b T v p) (fun a2 q => tlL b T (spLine b T) 14 f (k + 1) a2 q) = tlL b T (spLine b T) 14 f (k + 1) v2 (spLine b T v p).1 := by unfold prB; rw [s1]
        rw [eP]
        unfold X12_read_80 X12_read_106 tlL
        rw [m_skip s5.1 s3, bd_s, if_pos (s5.m1.mpr trivial), pa_a, (s5.1.pa).2.1, s4]
        rw [s4] at hle2
        by_cases c2 : T ≤ (spLine b T v p).1
        · rw [if_pos c2, if_pos (show nI (spLine b T v p).1 = nI T by rw [show (spLine b T v p).1 = T by omega]), stop]
          exact ⟨fun v3 e => by cases e; exact ⟨_, σ2, _, rfl, s5⟩, fun e => nomatch e⟩
        · rw [if_neg c2, if_neg (show ¬ nI (spLine b T v p).1 = nI T from fun z => by have := nI_inj (by omega) (by omega) z; omega), m_sign s5.1 (p := (spLine b T v p).1) hle2.2 (by rw [← s4, skp_id s3]) (s := 1) (by simp), bd2_s]
          by_cases c3 : term b T (spLine b T v p).1 = 4
          · have hl3 := term_lt (b := b) (T := T) (p := (spLine b T v p).1) (by omega)
            have he3 := sign_end (b := b) (T := T) (s := 1) (by omega) c3
            rw [if_pos c3, decide_eq_true (show term b T (spLine b T v p).1 = 1 + 3 from c3), if_neg (show ¬ b2i true = 0 by decide), pa_a, nI_1, pu_s, bd_s, pa_st, nI_1]
            exact ih (fuel + 1) ((spLine b T v p).1 + 1) _ (k + 1) v2 σ2 (by omega) (by omega) (by omega) s5 (by omega) (by rw [← he3]; rfl)
          · obtain ⟨τ, w1, w2⟩ := s5.w (f := (spLine b T v p).1) (a := (spLine b T v p).1) hle2.2 hle2.2
            rw [if_neg c3, decide_eq_false (show ¬ term b T (spLine b T v p).1 = 1 + 3 from c3), if_pos (show b2i false = 0 from rfl), pa_a, w1, bd_s, stopF τ _ _ _ w2]
            exact ⟨fun v3 e => (nomatch e), fun _ => ⟨_, τ, rfl, w2⟩⟩
      · obtain ⟨y, τ2, u1, u2⟩ := flt80 τ _ 1 (nI k) s2
        rw [s1, bd_s, u1]
        have eP : prB (spLine b T v p) (fun a2 q => tlL b T (spLine b T) 14 f (k + 1) a2 q) = ((spLine b T v p).1, none) := by
          cases hr : (spLine b T v p).2 with
          | none => unfold prB; rw [hr]
          | some v2 =>
            unfold prB
            rw [hr]
            rcases s3 with s3 | ⟨s3, s4⟩
            · rw [hr] at s3; cases s3
            · show tlL b T (spLine b T) 14 f (k + 1) v2 (spLine b T v p).1 = _
              unfold tlL
              rw [if_neg (by omega), if_neg s4]
        rw [eP]
        exact ⟨fun v3 e => (nomatch e), fun _ => ⟨y, τ2, rfl, u2⟩⟩
theorem m_readSt (h : MSt σ0 b T t v σ) : SaR σ0 b T t (X12_read 0 (PA σ 0 0)) (rdAll b T (spLine b T) 14 v) := by
  have hT := h.1.1
  have hle := skp_le (b := b) (T := T) (i := 0) (by omega)
  have hpp : skp b T (skp b T 0) = skp b T 0 := skp_id (Nat.zero_le _)
  unfold X12_read X12_read_20 rdAll
  rw [m_skip h.1 (Nat.zero_le _), bd_s, (h.1.pa).2.1, pa_a]
  obtain ⟨fu, hfu⟩ : ∃ z, FU = z + 1 := ⟨99999, rfl⟩
  by_cases c1 : T ≤ skp b T 0
  · rw [if_pos (nI_le c1 (by omega)), if_pos c1, hfu, X12_read_23, if_pos rfl]
    exact ⟨fun v2 e => by cases e; exact ⟨_, σ, _, rfl, h⟩, fun e => nomatch e⟩
  · rw [if_neg (nI_ge (by omega) (by omega)), if_neg c1]
    exact m_readS 20 FU _ _ 0 v σ (by omega) (by have : FU = 100000 := rfl; omega) (by omega) h hle.2 hpp
end STREET4

/-! the component reads lines -/
def FrL (σ0 σ : Mem) : Prop := (∀ c, c ≠ 1 → (c < 85 ∨ 98 ≤ c) → σ c = σ0 c) ∧ ∀ i, i ≠ 5 → i ≠ 6 → σ 1 i = σ0 1 i
def KL (σ0 : Mem) (b : Nat → Int32) (T N : Nat) (L : Lw) (k j : Nat) (σ : Mem) : Prop := Tok σ b T N ∧ σ 1 5 = nI j ∧ j ≤ N ∧ σ 1 6 = -1 ∧ LC σ 85 L ∧ σ 85 0 = nI L.length ∧ L.length = k ∧ Lw.off L L.length ≤ ps b T j ∧ FrL σ0 σ
/-- a text of lines, read by the component -/
def tlL {α : Type} (b : Nat → Int32) (T : Nat) (line : α → Nat → PR α) (mx f k : Nat) (a : α) (q : Nat) : PR α := if T ≤ q then (q, some a) else if term b T q = 4 then rdL b T line mx f k a (nx b T q) else (q, none)
def ResG {α : Type} (I : α → Nat → Nat → Mem → Prop) (Bd : Mem → Prop) (r : Option (Int32 × Mem)) (pr : PR α) : Prop := (∀ a2, pr.2 = some a2 → ∃ σ2 k j2, r = some (1, σ2) ∧ I a2 k j2 σ2) ∧ (pr.2 = none → ∃ σ2, r = some (0, σ2) ∧ σ2 1 6 = nI pr.1 ∧ Bd σ2)
section CLAW3
variable {σ σ0 σ1 σ2 : Mem} {b : Nat → Int32} {T N j n0 : Nat} {c : List Int32} {L : Lw} {x1 x2 x3 : Int32}
theorem gbz : gb (0 : Int32) = some () := rfl
theorem rdL_s {α : Type} {line : α → Nat → PR α} {mx f k : Nat} {a : α} {p : Nat} : rdL b T line mx (f + 1) k a p = if k = mx then (p, none) else prB (line a p) (fun a2 q => tlL b T line mx f (k + 1) a2 q) := rfl
theorem e_readG {α : Type} {RA : Nat → Int32 → Mem → Option (Int32 × Mem)} {RL fin : Mem → Option (Int32 × Mem)} {mx : Nat} {line : α → Nat → PR α} {I : α → Nat → Nat → Mem → Prop} {Bd : Mem → Prop} (hmx : mx ≤ 14) (hm0 : 0 < mx)
    (hRA : ∀ f x2 σ, RA (f + 1) x2 σ = if (nI mx) < x2 then fin σ else bd2 (X10_hasLine x2 (nI mx) σ) fun r12 σ12 => if r12 = 0 then fin σ12 else bd2 (RL σ12) fun r20 σ20 => if r20 = 0 then (bd (gb (0 : Int32)) fun _ => some ((0 : Int32), σ20)) else RA f (x2 + 1) σ20)
    (hf1 : ∀ σ, σ 1 6 = -1 → fin σ = some (1, σ)) (hf0 : ∀ σ f, σ 1 6 = nI f → f ≤ 400 → fin σ = some (0, σ))
    (hI : ∀ a k j σ, I a k j σ → Tok σ b T N ∧ σ 1 5 = nI j ∧ j ≤ N ∧ σ 1 6 = -1)
    (hN : ∀ a k j σ, I a k j σ → j + 1 ≤ N → ps b T j < T → I a k (j + 1) (st σ 1 5 (nI (j + 1))))
    (hB : ∀ a k j σ f, I a k j σ → Bd (st σ 1 6 (nI f)))
    (hL : ∀ a k j σ, I a k j σ → k < mx → (∀ a2, (line a (ps b T j)).2 = some a2 → ∃ σ2 j2, RL σ = some (1, σ2) ∧ ps b T j2 = (line a (ps b T j)).1 ∧ I a2 (k + 1) j2 σ2) ∧ ((line a (ps b T j)).2 = none → ∃ σ2, RL σ = some (0, σ2) ∧ σ2 1 6 = nI (line a (ps b T j)).1 ∧ Bd σ2))
    {a : α} {σ : Mem} (h : I a 0 0 σ) : ResG I Bd (RA FU 0 σ) (rdAll b T line mx a) := by
  have line_ : ∀ (k fuel f j : Nat) (a : α) (σ : Mem), k < mx → I a k j σ → (∀ (j : Nat) (a : α) (σ : Mem), I a (k + 1) j σ → ResG I Bd (RA fuel (nI (k + 1)) σ) (tlL b T line mx f (k + 1) a (ps b T j))) → ResG I Bd (bd2 (RL σ) fun r20 σ20 => if r20 = 0 then (bd (gb (0 : Int32)) fun _ => some ((0 : Int32), σ20)) else RA fuel (nI k + 1) σ20) (prB (line a (ps b T j)) (fun a2 q => tlL b T line mx f (k + 1) a2 q)) := by
    intro k fuel f j a σ hk hi ih
    obtain ⟨l1, l2⟩ := hL a k j σ hi hk
    cases hr : (line a (ps b T j)).2 with
    | none =>
      obtain ⟨σ2, e1, e2, e3⟩ := l2 hr
      unfold prB
      rw [hr, e1, bd2_s, if_pos rfl]
      exact ⟨fun a2 e => (nomatch e), fun _ => ⟨σ2, rfl, e2, e3⟩⟩
    | some a2 =>
      obtain ⟨σ2, j2, e1, e2, e3⟩ := l1 a2 hr
      unfold prB
      rw [hr, e1, bd2_s, if_neg (by decide), nI_1]
      have := ih j2 a2 σ2 e3
      rw [e2] at this
      exact this
  have key : ∀ (m k fuel f j : Nat) (a : α) (σ : Mem), 1 ≤ k → k + m = mx → m < fuel → m < f → I a k j σ → ResG I Bd (RA fuel (nI k) σ) (tlL b T line mx f k a (ps b T j)) := by
    intro m
    induction m with
    | zero =>
      intro k fuel f j a σ h1 hk hf1' hf2 hi
      obtain ⟨fuel, rfl⟩ : ∃ z, fuel = z + 1 := ⟨fuel - 1, by omega⟩
      obtain ⟨f, rfl⟩ : ∃ z, f = z + 1 := ⟨f - 1, by omega⟩
      obtain ⟨i1, i2, i3, i4⟩ := hI a k j σ hi
      have hT := i1.1
      have hle := (ps_le (b := b) (T := T) j).1
      rw [hRA, if_neg (nI_nlt (by omega) (by omega))]
      unfold X10_hasLine tlL
      rw [show (1 : Int32) = nI 1 from rfl, k_is i1 i3 i2 (by omega), bd_s]
      by_cases c1 : T ≤ ps b T j
      · rw [decide_eq_true (term_T c1), if_neg (show ¬ b2i true = 0 by decide), if_pos c1, gbz, bd_s, bd2_s, if_pos rfl, hf1 σ i4]
        exact ⟨fun a2 e => by cases e; exact ⟨σ, k, j, rfl, hi⟩, fun e => nomatch e⟩
      · rw [decide_eq_false (fun q => c1 (term_1.mp q)), if_pos (show b2i false = 0 from rfl), if_neg c1, if_neg (show ¬ nI k ≤ 0 from nI_ge (a := 0) (by omega) (by omega)), show (4 : Int32) = nI 4 from rfl, k_need i1 i3 i2 (by omega)]
        by_cases c2 : term b T (ps b T j) = 4
        · obtain ⟨n1, n2⟩ := i1.next i3 (by omega)
          have hi2 := hN a k j σ hi n1 n2
          obtain ⟨i5, i6, i7, i8⟩ := hI _ _ _ _ hi2
          rw [if_pos c2, if_pos c2, bd2_s, if_neg (by decide), rdL_s, if_pos (by omega)]
          unfold X10_hasLine_26
          have hle2 := (ps_le (b := b) (T := T) (j + 1)).1
          rw [if_neg (nI_nlt (by omega) (by omega)), k_wrong i5 i7 i6, bd2_s, if_pos rfl, gbz, bd_s, bd2_s, if_pos rfl, hf0 _ _ st_at (by omega)]
          exact ⟨fun a2 e => (nomatch e), fun _ => ⟨_, rfl, st_at, hB _ _ _ _ _ hi2⟩⟩
        · rw [if_neg c2, if_neg c2, bd2_s, if_pos rfl, gbz, bd_s, bd2_s, if_pos rfl, hf0 _ _ st_at (by omega)]
          exact ⟨fun a2 e => (nomatch e), fun _ => ⟨_, rfl, st_at, hB _ _ _ _ _ hi⟩⟩
    | succ m ih =>
      intro k fuel f j a σ h1 hk hf1' hf2 hi
      obtain ⟨fuel, rfl⟩ : ∃ z, fuel = z + 1 := ⟨fuel - 1, by omega⟩
      obtain ⟨f, rfl⟩ : ∃ z, f = z + 1 := ⟨f - 1, by omega⟩
      obtain ⟨i1, i2, i3, i4⟩ := hI a k j σ hi
      have hT := i1.1
      have hle := (ps_le (b := b) (T := T) j).1
      rw [hRA, if_neg (nI_nlt (by omega) (by omega))]
      unfold X10_hasLine tlL
      rw [show X10_is σ 1 = _ from k_is i1 i3 i2 (t := 1) (by omega), bd_s]
      by_cases c1 : T ≤ ps b T j
      · rw [decide_eq_true (term_T c1), if_neg (show ¬ b2i true = 0 by decide), if_pos c1, gbz, bd_s, bd2_s, if_pos rfl, hf1 σ i4]
        exact ⟨fun a2 e => by cases e; exact ⟨σ, k, j, rfl, hi⟩, fun e => nomatch e⟩
      · rw [decide_eq_false (fun q => c1 (term_1.mp q)), if_pos (show b2i false = 0 from rfl), if_neg c1, if_neg (show ¬ nI k ≤ 0 from nI_ge (a := 0) (by omega) (by omega)), show X10_need 4 σ = _ from k_need i1 i3 i2 (t := 4) (by omega)]
        by_cases c2 : term b T (ps b T j) = 4
        · obtain ⟨n1, n2⟩ := i1.next i3 (by omega)
          have hi2 := hN a k j σ hi n1 n2
          rw [if_pos c2, if_pos c2, bd2_s, if_neg (by decide), rdL_s, if_neg (by omega)]
          unfold X10_hasLine_26
          rw [if_pos (nI_lt (by omega) (by omega)), gb_1, bd_s, bd2_s, if_neg (by decide)]
          exact line_ k fuel f (j + 1) a _ (by omega) hi2 (fun j a σ h => ih (k + 1) fuel f j a σ (by omega) (by omega) (by omega) (by omega) h)
        · rw [if_neg c2, if_neg c2, bd2_s, if_pos rfl, gbz, bd_s, bd2_s, if_pos rfl, hf0 _ _ st_at (by omega)]
          exact ⟨fun a2 e => (nomatch e), fun _ => ⟨_, rfl, st_at, hB _ _ _ _ _ hi⟩⟩
  obtain ⟨fu, hfu⟩ : ∃ z, FU = z + 1 := ⟨99999, rfl⟩
  have hfu2 : fu = 99999 := by have : FU = 100000 := rfl; omega
  obtain ⟨i1, i2, i3, i4⟩ := hI a 0 0 σ h
  rw [hfu, hRA, if_neg (show ¬ nI mx < 0 from nI_nlt (b := 0) (by omega) (by omega))]
  unfold X10_hasLine rdAll
  rw [show X10_is σ 1 = _ from k_is i1 i3 i2 (t := 1) (by omega), bd_s]
  by_cases c1 : T ≤ ps b T 0
  · rw [decide_eq_true (term_T c1), if_neg (show ¬ b2i true = 0 by decide), if_pos (show T ≤ skp b T 0 from c1), gbz, bd_s, bd2_s, if_pos rfl, hf1 σ i4]
    exact ⟨fun a2 e => by cases e; exact ⟨σ, 0, 0, rfl, h⟩, fun e => nomatch e⟩
  · rw [decide_eq_false (fun q => c1 (term_1.mp q)), if_pos (show b2i false = 0 from rfl), if_neg (show ¬ T ≤ skp b T 0 from c1), if_pos (show (0 : Int32) ≤ 0 by decide), rdL_s, if_neg (by omega)]
    unfold X10_hasLine_26
    rw [if_pos (show (0 : Int32) < nI mx from nI_lt (a := 0) hm0 (by omega)), gb_1, bd_s, bd2_s, if_neg (by decide)]
    exact line_ 0 fu 19 0 a σ hm0 h (fun j a σ h => key (mx - 1) 1 fu 19 j a σ (by omega) (by omega) (by omega) (by omega) h)
/-! a line of the law -/
theorem off_app : ∀ {L M : Lw} {i : Nat}, i ≤ L.length → Lw.off (L ++ M) i = Lw.off L i := by
  intro L
  induction L with
  | nil =>
    intro M i h
    have : i = 0 := by simp only [List.length_nil] at h; omega
    subst this
    show Lw.off M 0 = Lw.off [] 0
    cases M <;> rfl
  | cons l L ih =>
    intro M i h
    cases i with
    | zero => rfl
    | succ i =>
      show l.2.2.length + Lw.off (L ++ M) i = l.2.2.length + Lw.off L i
      rw [ih (by simp only [List.length_cons] at h; omega)]
theorem ln87 : ln 87 = 12 ∧ ln 89 = 12 ∧ ln 91 = 12 := by decide +kernel
/-- the line is written down -/
theorem e_endLine {σb σe : Mem} {k : Nat} {w : Int32} {pl : Bool} (h : KL σ0 b T N L k j σ) (hk : k < 12) (hb : σb = st (st σ 87 k w) 89 k (b2i pl)) {j2 : Nat} {c : List Int32} (hs : KS (Lw.off L L.length) σb σe b T N j2 c) (hd : ∃ d, depC c 0 = some d) (hl : Lw.off L L.length + c.length ≤ ps b T j2) : ∃ σ2, X4_readLine_105 85 σe = some (1, σ2) ∧ KL σ0 b T N (L ++ [(w, pl, c)]) (k + 1) j2 σ2 := by
  obtain ⟨h1, h2, h3, h4, ⟨K1, K2, K3, K4, K5⟩, h6, h7, h8, h9, h10⟩ := h
  obtain ⟨s1, s2, s3, s4, s5, s6, s7, s8, s9, s10⟩ := hs
  have hle := (ps_le (b := b) (T := T) j2).1
  have hT := s1.1
  have e85 : σe 85 0 = nI k := by rw [s10 0 (by decide), hb, st_n (by decide), st_n (by decide), h6, h7]
  have hlen : (L ++ [(w, pl, c)]).length = k + 1 := by rw [List.length_append, h7]; rfl
  have ho1 : Lw.off (L ++ [(w, pl, c)]) L.length = Lw.off L L.length := off_app (Nat.le_refl _)
  have ho2 : Lw.off (L ++ [(w, pl, c)]) (k + 1) = Lw.off L L.length + c.length := by
    rw [off_s (i := k) (l := (w, pl, c)) (by rw [List.getElem?_append_right (by omega), h7, Nat.sub_self]; rfl), ← h7, ho1]
  unfold X4_readLine_105 X3_endLine
  rw [e85, s5, e_set (B := 85 + 5) (show k < ln 91 by rw [ln87.2.2]; omega) (by decide +kernel), bd_s, st_n (by decide), e85, nI_1, pu_s, bd_s, bd_s, gb_1, bd_s]
  generalize hσ2 : st (st σe (85 + 5 + 1) k (nI (Lw.off L L.length + c.length))) 85 0 (nI (k + 1)) = σ2
  have f2 : ∀ q, q ≠ 91 → q ≠ 85 → σ2 q = σe q := fun q c1 c2 => by rw [← hσ2, st_n c2, st_n c1]
  have fb : ∀ q, q ≠ 87 → q ≠ 89 → σb q = σ q := fun q c1 c2 => by rw [hb, st_n c2, st_n c1]
  have g87 : ∀ i, σ2 87 i = if i = k then w else σ 87 i := fun i => by
    rw [f2 87 (by decide) (by decide), s8 87 (by decide) (by decide) (by decide), hb, st_n (by decide)]
    by_cases e : i = k
    · rw [if_pos e, e, st_at]
    · rw [if_neg e, st_at' e]
  have g89 : ∀ i, σ2 89 i = if i = k then b2i pl else σ 89 i := fun i => by
    rw [f2 89 (by decide) (by decide), s8 89 (by decide) (by decide) (by decide), hb]
    by_cases e : i = k
    · rw [if_pos e, e, st_at]
    · rw [if_neg e, st_at' e, st_n (by decide)]
  have g91 : ∀ i, σ2 91 i = if i = k then nI (Lw.off L L.length + c.length) else σ 91 i := fun i => by
    rw [← hσ2, st_n (by decide)]
    by_cases e : i = k
    · rw [if_pos e, e, st_at]
    · rw [if_neg e, st_at' e, s8 91 (by decide) (by decide) (by decide), fb 91 (by decide) (by decide)]
  have g93 : σ2 93 = σe 93 := f2 93 (by decide) (by decide)
  have g850 : σ2 85 0 = nI (k + 1) := by rw [← hσ2, st_at]
  have g855 : σ2 85 5 = nI (Lw.off L L.length + c.length) := by rw [← hσ2, st_at' (by decide), st_n (by decide), s5]
  have g1 : σ2 1 = σe 1 := f2 1 (by decide) (by decide)
  refine ⟨σ2, rfl, s1.move (f2 4 (by decide) (by decide)) (f2 6 (by decide) (by decide)) (f2 8 (by decide) (by decide)), by rw [g1]; exact s2, s3, by rw [g1]; exact s4, ⟨Or.inl (by rw [g850, hlen]), by omega, by rw [g855, hlen, ho2], by rw [hlen, ho2]; omega, fun i l hi => ?_⟩, by rw [g850, hlen], hlen, by rw [hlen, ho2]; exact hl, fun q c1 c2 => by rw [f2 q (by omega) (by omega), s8 q c1 (by omega) (by omega), fb q (by omega) (by omega), h9 q c1 c2], fun i i1 i2 => by rw [g1, s9 i i1 i2, fb 1 (by decide) (by decide), h10 i i1 i2]⟩
  by_cases e : i < L.length
  · rw [List.getElem?_append_left e] at hi
    obtain ⟨a1, a2, a3, a4, a5⟩ := K5 i l hi
    have hik : i ≠ k := by omega
    have os := off_s hi
    have ol := off_le e
    refine ⟨by rw [g87, if_neg hik]; exact a1, by rw [g89, if_neg hik]; exact a2, by rw [g91, if_neg hik, off_app (by omega)]; exact a3, a4, fun q x hq => ?_⟩
    have hql : q < l.2.2.length := by
      apply Classical.byContradiction
      intro z
      rw [List.getElem?_eq_none (by omega)] at hq
      cases hq
    rw [off_app (by omega), g93, s7 _ (by omega), fb 93 (by decide) (by decide)]
    exact a5 q x hq
  · rw [List.getElem?_append_right (by omega)] at hi
    have : i - L.length = 0 := by
      apply Classical.byContradiction
      intro q
      rw [List.getElem?_eq_none (by simp only [List.length_cons, List.length_nil]; omega)] at hi
      cases hi
    have hik : i = k := by omega
    rw [this] at hi
    cases hi
    subst hik
    refine ⟨by rw [g87, if_pos rfl], by rw [g89, if_pos rfl], by rw [g91, if_pos rfl, ho2], hd, fun q x hq => ?_⟩
    rw [show Lw.off (L ++ [(w, pl, c)]) i = Lw.off L L.length by rw [← h7]; exact ho1, g93]
    exact s6 q x hq
/-- what a line comes to -/
def LnR (σ0 : Mem) (b : Nat → Int32) (T N : Nat) (k : Nat) (r : Option (Int32 × Mem)) (pr : PR Lw) : Prop := (∀ L2, pr.2 = some L2 → ∃ σ2 j2, r = some (1, σ2) ∧ ps b T j2 = pr.1 ∧ KL σ0 b T N L2 (k + 1) j2 σ2) ∧ (pr.2 = none → ∃ σ2, r = some (0, σ2) ∧ σ2 1 6 = nI pr.1 ∧ FrL σ0 σ2)
theorem KL.bad {k f : Nat} (h : KL σ0 b T N L k j σ) : FrL σ0 (st σ 1 6 (nI f)) := ⟨fun q c1 c2 => by rw [st_n c1]; exact h.2.2.2.2.2.2.2.2.1 q c1 c2, fun i i1 i2 => by rw [st_at' i2]; exact h.2.2.2.2.2.2.2.2.2 i i1 i2⟩
theorem KL.now {k q : Nat} (h : KL σ0 b T N L k j σ) (hq : q ≤ N) (hjq : ps b T j ≤ ps b T q) : KL σ0 b T N L k q (st σ 1 5 (nI q)) := by
  obtain ⟨h1, h2, h3, h4, h5, h6, h7, h8, h9, h10⟩ := h
  exact ⟨h1.move (st_n (by decide)) (st_n (by decide)) (st_n (by decide)), st_at, hq, by rw [st_at' (by decide)]; exact h4, h5.move fun c _ c2 => st_n (by omega), by rw [st_n (by decide)]; exact h6, h7, by omega, fun q c1 c2 => by rw [st_n c1]; exact h9 q c1 c2, fun i i1 i2 => by rw [st_at' i1]; exact h10 i i1 i2⟩
theorem KL.next {k : Nat} (h : KL σ0 b T N L k j σ) (ht : term b T (ps b T j) ≠ 1) : KL σ0 b T N L k (j + 1) (st σ 1 5 (nI (j + 1))) ∧ ps b T j < T := by
  obtain ⟨a1, a2⟩ := h.1.next h.2.2.1 ht
  have := nx_gt (b := b) a2
  exact ⟨h.now a1 (by show _ ≤ nx b T (ps b T j); omega), a2⟩
theorem e_lawIf {k : Nat} (h : KL σ0 b T N L k j σ) (hk : k < 12) {w : Int32} {pl : Bool} {y : Int32} (hy : (y = 0 ∧ pl = false) ∨ (y = 1 ∧ pl = true)) : LnR σ0 b T N k (X4_readLine_81 85 85 w y σ) (prB (lpIf b T w pl (ps b T j)) (fun l q => (q, some (L ++ [l])))) := by
  obtain ⟨h1, h2, h3, h4, h5, h6, h7, h8, h9, h10⟩ := id h
  have hT := h1.1
  have hle := (ps_le (b := b) (T := T) j).1
  generalize hb : st (st σ 87 k w) 89 k (b2i pl) = σb
  have fb : ∀ q, q ≠ 87 → q ≠ 89 → σb q = σ q := fun q c1 c2 => by rw [← hb, st_n c2, st_n c1]
  have e0 : X3_beginLine 85 w y σ = some σb := by
    unfold X3_beginLine
    rw [h6, h7, e_set (B := 85 + 1) (show k < ln 87 by rw [ln87.1]; omega) (by decide +kernel), bd_s, st_n (by decide), h6, h7]
    rcases hy with ⟨rfl, rfl⟩ | ⟨rfl, rfl⟩
    · rw [if_pos rfl, e_set (B := 85 + 3) (show k < ln 89 by rw [ln87.2.1]; omega) (by decide +kernel), bd_s, ← hb]; rfl
    · rw [if_neg (by decide), e_set (B := 85 + 3) (show k < ln 89 by rw [ln87.2.1]; omega) (by decide +kernel), bd_s, ← hb]; rfl
  have hs : KS (Lw.off L L.length) σb σb b T N j [] := ⟨h1.move (fb 4 (by decide) (by decide)) (fb 6 (by decide) (by decide)) (fb 8 (by decide) (by decide)), by rw [fb 1 (by decide) (by decide)]; exact h2, h3, by rw [fb 1 (by decide) (by decide)]; exact h4, by rw [fb 85 (by decide) (by decide), h5.2.2.1]; rfl, fun i x (hx : ([] : List Int32)[i]? = some x) => (by rw [List.getElem?_nil] at hx; exact (nomatch hx)), fun _ _ => rfl, fun _ _ _ _ => rfl, fun _ _ _ => rfl, fun _ _ => rfl⟩
  unfold X4_readLine_81 lpIf
  rw [e0, bd_s, show (29 : Int32) = nI 29 from rfl, k_take hs.1 hs.2.2.1 hs.2.1 (by omega)]
  by_cases c1 : term b T (ps b T j) = 29
  · obtain ⟨k1, k2⟩ := hs.next (by omega)
    have hn := nx_gt (b := b) k2
    have hps : ps b T (j + 1) = nx b T (ps b T j) := rfl
    have hm := e_cond _ _ _ k1 (by rw [hps]; show Lw.off L L.length + 0 ≤ _; omega)
    have g := g_cond (b := b) (T := T) (p := ps b T (j + 1)) (by rw [hps]; exact hn.2)
    rw [if_pos c1, if_pos c1, bd2_s, if_neg (by decide)]
    rw [hps] at hm g
    cases hr : (lpSo b T (lpAtom b T 6) (nx b T (ps b T j))).2 with
    | none =>
      obtain ⟨σ2, e2, e3, e4⟩ := hm.2 hr
      have : prB (prB (lpSo b T (lpAtom b T 6) (nx b T (ps b T j))) (fun c r => ((r, some (w, pl, c)) : PR (Int32 × Bool × List Int32)))) (fun l q => ((q, some (L ++ [l])) : PR Lw)) = ((lpSo b T (lpAtom b T 6) (nx b T (ps b T j))).1, none) := by unfold prB; rw [hr]
      rw [this, e2, bd2_s, if_pos rfl]
      obtain ⟨q1, q2, q3⟩ := e4
      exact ⟨fun a e => (nomatch e), fun _ => ⟨σ2, rfl, e3, fun q c1 c2 => by rw [q1 q c1 (by omega) (by omega), fb q (by omega) (by omega), h9 q c1 c2], fun i i1 i2 => by rw [q2 i i1 i2, fb 1 (by decide) (by decide), h10 i i1 i2]⟩⟩
    | some c2 =>
      obtain ⟨σ2, j2, e2, e3, e4⟩ := hm.1 c2 hr
      obtain ⟨g1, g2, g3, g4⟩ := g.2 c2 hr
      have : prB (prB (lpSo b T (lpAtom b T 6) (nx b T (ps b T j))) (fun c r => ((r, some (w, pl, c)) : PR (Int32 × Bool × List Int32)))) (fun l q => ((q, some (L ++ [l])) : PR Lw)) = ((lpSo b T (lpAtom b T 6) (nx b T (ps b T j))).1, some (L ++ [(w, pl, c2)])) := by unfold prB; rw [hr]
      rw [this, e2, bd2_s, if_neg (by decide)]
      obtain ⟨σ3, u1, u2⟩ := e_endLine (w := w) (pl := pl) h hk hb.symm (show KS _ σb σ2 b T N j2 c2 from e4) ⟨_, g4 0 (by omega)⟩ (by omega)
      exact ⟨fun a e => by cases e; exact ⟨σ3, j2, u1, e3, u2⟩, fun e => nomatch e⟩
  · rw [if_neg c1, if_neg c1, bd2_s, if_pos rfl, prB_s]
    obtain ⟨σ3, u1, u2⟩ := e_endLine (w := w) (pl := pl) h hk hb.symm hs ⟨0, rfl⟩ (show Lw.off L L.length + 0 ≤ _ by omega)
    exact ⟨fun a e => by cases e; exact ⟨σ3, j, u1, rfl, u2⟩, fun e => nomatch e⟩
theorem e_lawLine {k : Nat} (h : KL σ0 b T N L k j σ) (hk : k < 12) : LnR σ0 b T N k (X4_readLine 85 σ) (lawLine b T L (ps b T j)) := by
  obtain ⟨h1, h2, h3, h4, h5, h6, h7, h8, h9, h10⟩ := id h
  have hT := h1.1
  have hle := (ps_le (b := b) (T := T) j).1
  have hps : ps b T (j + 1) = nx b T (ps b T j) := rfl
  unfold X4_readLine lawLine lpLine
  rw [k_term h1 h3 h2, bd_s, show X10_take 26 σ = _ from k_take h1 h3 h2 (t := 26) (by omega)]
  have num : ∀ (t : Nat), (t = 26 ∨ t = 27) → term b T (ps b T j) = t → LnR σ0 b T N k (X4_readLine_27 85 (nI t) (st σ 1 5 (nI (j + 1)))) (prB (prB (lpFig b T 20 (nx b T (ps b T j))) (fun n q => lpIf b T (if t = 26 then nI n else -(nI n)) false q)) (fun l q => (q, some (L ++ [l])))) := by
    intro t ht e
    obtain ⟨k1, k2⟩ := h.next (by omega)
    have hn := nx_gt (b := b) k2
    unfold X4_readLine_27 lpFig X4_readLine_49 X4_readLine_69
    rw [k_upTo k1.1 k1.2.2.1 k1.2.1, hps]
    by_cases c : term b T (nx b T (ps b T j)) = 3 ∧ nI (val b T (nx b T (ps b T j))) ≤ 20
    · obtain ⟨k3, k4⟩ := k1.next (by rw [hps]; omega)
      have hv := (val_I c.1).2
      have h28 : ¬ nI t = nI 28 := fun z => by have := nI_inj (a := t) (b := 28) (by omega) (by omega) z; omega
      rw [if_pos c, if_pos c, bd2_s, if_pos (nI_pos' (by omega)), prB_s, show (26 : Int32) = nI 26 from rfl, gt2_s (by omega) (by omega), bd_s, show (28 : Int32) = nI 28 from rfl, gt2_s (by omega) (by omega), bd_s, bd_s]
      have e2 : ps b T (j + 1 + 1) = nx b T (nx b T (ps b T j)) := rfl
      by_cases c26 : t = 26
      · rw [if_pos (by rw [c26]), if_pos c26, if_neg h28]
        have := e_lawIf k3 hk (w := nI (val b T (nx b T (ps b T j)))) (pl := false) (y := 0) (Or.inl ⟨rfl, rfl⟩)
        rw [e2] at this
        exact this
      · rw [if_neg (fun z => c26 (nI_inj (by omega) (by omega) z)), if_neg c26, if_neg h28]
        have := e_lawIf k3 hk (w := -(nI (val b T (nx b T (ps b T j))))) (pl := false) (y := 0) (Or.inl ⟨rfl, rfl⟩)
        rw [e2] at this
        exact this
    · rw [if_neg c, if_neg c, bd2_s, if_neg (by decide)]
      exact ⟨fun a e => (nomatch e), fun _ => ⟨_, rfl, st_at, k1.bad⟩⟩
  by_cases c1 : term b T (ps b T j) = 26
  · rw [if_pos c1, if_pos c1, bd2_s, if_neg (by decide), c1]
    exact num 26 (Or.inl rfl) c1
  · rw [if_neg c1, if_neg c1, bd2_s, if_pos rfl, show X10_take 27 σ = _ from k_take h1 h3 h2 (t := 27) (by omega)]
    by_cases c2 : term b T (ps b T j) = 27
    · rw [if_pos c2, if_pos c2, bd2_s, if_neg (by decide), c2]
      exact num 27 (Or.inr rfl) c2
    · rw [if_neg c2, if_neg c2, bd2_s, if_pos rfl, show X10_need 28 σ = _ from k_need h1 h3 h2 (t := 28) (by omega)]
      by_cases c3 : term b T (ps b T j) = 28
      · obtain ⟨k1, k2⟩ := h.next (by omega)
        rw [if_pos c3, if_pos c3, bd2_s, if_neg (by decide), c3]
        unfold X4_readLine_49 X4_readLine_69
        rw [if_pos (by decide), show (26 : Int32) = nI 26 from rfl, gt2_s (by omega) (by omega), bd_s, if_neg (by decide), show (28 : Int32) = nI 28 from rfl, gt2_s (by omega) (by omega), bd_s, if_pos rfl]
        have := e_lawIf k1 hk (w := -0) (pl := true) (y := 1) (Or.inr ⟨rfl, rfl⟩)
        rw [hps] at this
        exact this
      · rw [if_neg c3, if_neg c3, bd2_s, if_pos rfl]
        unfold X4_readLine_49
        rw [if_neg (by decide)]
        exact ⟨fun a e => (nomatch e), fun _ => ⟨_, rfl, st_at, h.bad⟩⟩
theorem e_readLaw (h : KL σ0 b T N [] 0 0 σ) : ResG (KL σ0 b T N) (FrL σ0) (X4_readAll 85 σ) (parseLaw b T) := by
  unfold X4_readAll parseLaw
  refine e_readG (RA := fun f x2 σ => X4_readAll_2 f 85 x2 σ) (RL := X4_readLine 85) (fin := X4_readAll_34) (mx := 12) (line := lawLine b T) (I := KL σ0 b T N) (Bd := FrL σ0) (by omega) (by omega) (fun f x2 σ => rfl) (fun σ h => ?_) (fun σ f h hf => ?_) (fun a k j σ h => ⟨h.1, h.2.1, h.2.2.1, h.2.2.2.1⟩) (fun a k j σ h hj hl => ?_) (fun a k j σ f h => h.bad) (fun a k j σ h hk => e_lawLine h hk) h
  · unfold X4_readAll_34; rw [if_pos h]; rfl
  · unfold X4_readAll_34; rw [h, if_neg (nI_m1 (by omega))]; rfl
  · have := nx_gt (b := b) hl
    exact h.now hj (by show _ ≤ nx b T (ps b T j); omega)
end CLAW3

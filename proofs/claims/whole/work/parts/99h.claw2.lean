/-! the component reads conditions -/
section CLAW2
variable {σ σ0 σ1 σ2 : Mem} {b : Nat → Int32} {T N j n0 : Nat} {c : List Int32} {x1 x2 x3 : Int32}
/-- how an atom is read -/
def RdA (n0 : Nat) (σ0 : Mem) (b : Nat → Int32) (T N : Nat) (rf : Mem → Option (Int32 × Mem)) (A : Nat → PR (List Int32)) : Prop := ∀ (σ : Mem) (j : Nat) (c : List Int32), KS n0 σ0 σ b T N j c → n0 + c.length ≤ ps b T j → CLR n0 σ0 b T N c (fun σ2 => some (1, σ2)) (rf σ) (A (ps b T j))
theorem e_evL {rfA : Nat → Int32 → Mem → Option (Int32 × Mem)} {rc2 : Nat → Int32 → Int32 → Mem → Option (Int32 × Mem)} {A : Nat → PR (List Int32)} {m p0 : Nat} (gA : ∀ p, p ≤ T → GdR b T m p (A p)) (hA : RdA n0 σ0 b T N (rfA 85 x2) A) : ∀ (f fuel x j : Nat) (σ : Mem) (c cl : List Int32), T < ps b T j + f → T < ps b T j + fuel → x + 1 ≤ ps b T j → KS n0 σ0 σ b T N j (c ++ cl) → n0 + c.length ≤ p0 → cl.length + p0 ≤ ps b T j → CLR n0 σ0 b T N c (oX4_readCondition_61 rfA rc2 85 x2 x3) (oX4_readCondition_42 rfA rc2 (oX4_readCondition_12 rfA rc2 fuel) 85 x2 x3 (nI x) σ) (lpEvL b T A f cl (ps b T j)) := by
  intro f
  induction f with
  | zero => intro fuel x j σ c cl h1 h2 h3 h; have := (ps_le (b := b) (T := T) j).1; omega
  | succ f ih =>
    intro fuel x j σ c cl h1 h2 h3 h h5 h6
    have hT := h.1.1
    unfold oX4_readCondition_42 lpEvL
    rw [show (31 : Int32) = nI 31 from rfl, k_take h.1 h.2.2.1 h.2.1 (by omega)]
    by_cases c1 : term b T (ps b T j) = 31
    · obtain ⟨k1, k2⟩ := h.next (by omega)
      have hn := nx_gt (b := b) k2
      obtain ⟨fuel, rfl⟩ : ∃ z, fuel = z + 1 := ⟨fuel - 1, by omega⟩
      have hps : ps b T (j + 1) = nx b T (ps b T j) := rfl
      have hm := hA _ _ _ k1 (by rw [hps, List.length_append]; omega)
      have g := gA (ps b T (j + 1)) (by rw [hps]; exact hn.2)
      rw [if_pos c1, if_pos c1, bd2_s, if_neg (by decide), nI_1, oX4_readCondition_12, if_neg (show ¬ (400 : Int32) ≤ nI (x + 1) from nI_ge (b := 400) (by omega) (by omega))]
      rw [hps] at hm g
      cases hr : (A (nx b T (ps b T j))).2 with
      | none =>
        obtain ⟨σ2, e2, e3, e4⟩ := hm.2 hr
        unfold prB
        rw [hr, e2, bd2_s, if_pos rfl]
        exact CLR.no ⟨σ2, rfl, e3, e4⟩
      | some c2 =>
        obtain ⟨σ2, j2, e2, e3, e4⟩ := hm.1 c2 hr
        obtain ⟨g1, g2, g3, g4⟩ := g.2 c2 hr
        have gT := g.1
        unfold prB
        rw [hr, e2, bd2_s, if_neg (by decide), if_neg (show ¬ nI (x + 1) ≤ 0 from nI_ge (a := 0) (by omega) (by omega))]
        obtain ⟨τ, t1, t2⟩ := e_emit e4 (x := -5) (by rw [List.length_append, List.length_append]; omega)
        rw [t1, bd_s]
        have := ih fuel (x + 1) j2 τ c (cl ++ c2 ++ [-5]) (by omega) (by omega) (by omega) (by simpa [List.append_assoc] using t2) h5 (by simp only [List.length_append, List.length_cons, List.length_nil]; omega)
        rw [e3] at this
        exact this
    · rw [if_neg c1, if_neg c1, bd2_s, if_pos rfl]
      refine ⟨fun c2 e => ?_, fun e => nomatch e⟩
      cases e
      exact ⟨σ, j, rfl, rfl, h⟩
theorem e_ev {rfA : Nat → Int32 → Mem → Option (Int32 × Mem)} {rc2 : Nat → Int32 → Int32 → Mem → Option (Int32 × Mem)} {A : Nat → PR (List Int32)} {m : Nat} (gA : ∀ p, p ≤ T → GdR b T m p (A p)) (hA : RdA n0 σ0 b T N (rfA 85 x2) A) (h : KS n0 σ0 σ b T N j c) (hl : n0 + c.length ≤ ps b T j) : CLR n0 σ0 b T N c (oX4_readCondition_61 rfA rc2 85 x2 x3) (oX4_readCondition_12 rfA rc2 FU 85 x2 x3 0 σ) (lpEv b T A (ps b T j)) := by
  have hT := h.1.1
  have hle := (ps_le (b := b) (T := T) j).1
  unfold lpEv
  obtain ⟨fu, hfu⟩ : ∃ z, FU = z + 1 := ⟨99999, rfl⟩
  have hfu2 : fu = 99999 := by have : FU = 100000 := rfl; omega
  have hm := hA _ _ _ h hl
  have g := gA (ps b T j) hle
  rw [hfu, oX4_readCondition_12, if_neg (by decide)]
  cases hr : (A (ps b T j)).2 with
  | none =>
    obtain ⟨σ2, e2, e3, e4⟩ := hm.2 hr
    unfold prB
    rw [hr, e2, bd2_s, if_pos rfl]
    exact CLR.no ⟨σ2, rfl, e3, e4⟩
  | some c2 =>
    obtain ⟨σ2, j2, e2, e3, e4⟩ := hm.1 c2 hr
    obtain ⟨g1, g2, g3, g4⟩ := g.2 c2 hr
    have gT := g.1
    unfold prB
    rw [hr, e2, bd2_s, if_neg (by decide), if_pos (by decide)]
    have := e_evL (rc2 := rc2) (x3 := x3) gA hA (p0 := ps b T j) 400 fu 0 j2 σ2 c c2 (by omega) (by omega) (by omega) e4 hl (by omega)
    rw [e3] at this
    exact this
theorem e_soL {rfA : Nat → Int32 → Mem → Option (Int32 × Mem)} {A : Nat → PR (List Int32)} {m p0 : Nat} (gA : ∀ p, p ≤ T → GdR b T m p (A p)) (hA : RdA n0 σ0 b T N (rfA 85 x2) A) : ∀ (f fuel x j : Nat) (σ : Mem) (c cl : List Int32), T < ps b T j + f → T < ps b T j + fuel → x + 1 ≤ ps b T j → KS n0 σ0 σ b T N j (c ++ cl) → n0 + c.length ≤ p0 → cl.length + p0 ≤ ps b T j → CLR n0 σ0 b T N c (fun σ2 => some (1, σ2)) (oX4_readCondition_71 rfA (oX4_readCondition_2 rfA fuel) 85 x2 (nI x) σ) (lpSoL b T A f cl (ps b T j)) := by
  intro f
  induction f with
  | zero => intro fuel x j σ c cl h1 h2 h3 h; have := (ps_le (b := b) (T := T) j).1; omega
  | succ f ih =>
    intro fuel x j σ c cl h1 h2 h3 h h5 h6
    have hT := h.1.1
    unfold oX4_readCondition_71 lpSoL
    rw [show (32 : Int32) = nI 32 from rfl, k_take h.1 h.2.2.1 h.2.1 (by omega)]
    by_cases c1 : term b T (ps b T j) = 32
    · obtain ⟨k1, k2⟩ := h.next (by omega)
      have hn := nx_gt (b := b) k2
      obtain ⟨fuel, rfl⟩ : ∃ z, fuel = z + 1 := ⟨fuel - 1, by omega⟩
      have hps : ps b T (j + 1) = nx b T (ps b T j) := rfl
      have hm := e_ev (rc2 := oX4_readCondition_2 rfA fuel) (x3 := nI (x + 1)) gA hA k1 (by rw [hps, List.length_append]; omega)
      have g := g_ev gA (p := ps b T (j + 1)) (by rw [hps]; exact hn.2)
      rw [if_pos c1, if_pos c1, bd2_s, if_neg (by decide), nI_1, oX4_readCondition_2, if_neg (show ¬ (400 : Int32) ≤ nI (x + 1) from nI_ge (b := 400) (by omega) (by omega))]
      rw [hps] at hm g
      cases hr : (lpEv b T A (nx b T (ps b T j))).2 with
      | none =>
        obtain ⟨σ2, e2, e3, e4⟩ := hm.2 hr
        unfold prB
        rw [hr]
        exact CLR.no ⟨σ2, e2, e3, e4⟩
      | some c2 =>
        obtain ⟨σ2, j2, e2, e3, e4⟩ := hm.1 c2 hr
        obtain ⟨g1, g2, g3, g4⟩ := g.2 c2 hr
        have gT := g.1
        unfold prB
        rw [hr, e2]
        unfold oX4_readCondition_61
        rw [if_neg (show ¬ nI (x + 1) ≤ 0 from nI_ge (a := 0) (by omega) (by omega))]
        obtain ⟨τ, t1, t2⟩ := e_emit e4 (x := -6) (by rw [List.length_append, List.length_append]; omega)
        rw [t1, bd_s]
        have := ih fuel (x + 1) j2 τ c (cl ++ c2 ++ [-6]) (by omega) (by omega) (by omega) (by simpa [List.append_assoc] using t2) h5 (by simp only [List.length_append, List.length_cons, List.length_nil]; omega)
        rw [e3] at this
        exact this
    · rw [if_neg c1, if_neg c1, bd2_s, if_pos rfl]
      refine ⟨fun c2 e => ?_, fun e => nomatch e⟩
      cases e
      exact ⟨σ, j, rfl, rfl, h⟩
theorem e_so {rfA : Nat → Int32 → Mem → Option (Int32 × Mem)} {A : Nat → PR (List Int32)} {m : Nat} (gA : ∀ p, p ≤ T → GdR b T m p (A p)) (hA : RdA n0 σ0 b T N (rfA 85 x2) A) : RdA n0 σ0 b T N (oX4_readCondition rfA 85 x2) (lpSo b T A) := by
  intro σ j c h hl
  have hT := h.1.1
  have hle := (ps_le (b := b) (T := T) j).1
  unfold lpSo oX4_readCondition
  obtain ⟨fu, hfu⟩ : ∃ z, FU = z + 1 := ⟨99999, rfl⟩
  have hfu2 : fu = 99999 := by have : FU = 100000 := rfl; omega
  have hm := e_ev (rc2 := oX4_readCondition_2 rfA fu) (x3 := 0) gA hA h hl
  have g := g_ev gA (p := ps b T j) hle
  have e0 : oX4_readCondition_2 rfA FU 85 x2 0 σ = oX4_readCondition_12 rfA (oX4_readCondition_2 rfA fu) FU 85 x2 0 0 σ := by
    rw [hfu, oX4_readCondition_2, if_neg (by decide), ← hfu]
  rw [e0]
  cases hr : (lpEv b T A (ps b T j)).2 with
  | none =>
    obtain ⟨σ2, e2, e3, e4⟩ := hm.2 hr
    unfold prB
    rw [hr]
    exact CLR.no ⟨σ2, e2, e3, e4⟩
  | some c2 =>
    obtain ⟨σ2, j2, e2, e3, e4⟩ := hm.1 c2 hr
    obtain ⟨g1, g2, g3, g4⟩ := g.2 c2 hr
    have gT := g.1
    unfold prB
    rw [hr, e2]
    unfold oX4_readCondition_61
    rw [if_pos (by decide)]
    have := e_soL gA hA (p0 := ps b T j) 400 fu 0 j2 σ2 c c2 (by omega) (by omega) (by omega) e4 hl (by omega)
    rw [e3] at this
    exact this
theorem e_atom : ∀ (D k x : Nat), 2 * D + 1 ≤ k → x + D = 6 → RdA n0 σ0 b T N ((rc4 k).1 85 (nI x)) (lpAtom b T D) := by
  intro D
  induction D with
  | zero =>
    intro k x hk hx σ j c h hl
    obtain ⟨k, rfl⟩ : ∃ z, k = z + 1 := ⟨k - 1, by omega⟩
    show CLR n0 σ0 b T N c _ (oX4_readAtom (rc4 k).2 (rc4 k).1 85 (nI x) σ) _
    have deep : CLR n0 σ0 b T N c (fun σ2 => some (1, σ2)) (oX4_readAtom_20 (rc4 k).2 (rc4 k).1 85 (nI x) σ) (ps b T j, none) := by
      unfold oX4_readAtom_20 oX4_readAtom_25
      rw [if_neg (by decide), if_neg (show ¬ nI x < 6 from nI_nlt (b := 6) (by omega) (by omega)), k_wrong h.1 h.2.2.1 h.2.1, bd2_s]
      exact CLR.no ⟨_, rfl, h.bad⟩
    unfold oX4_readAtom lpAtom
    rw [show (30 : Int32) = nI 30 from rfl, k_is h.1 h.2.2.1 h.2.1 (by omega), bd_s]
    by_cases c1 : term b T (ps b T j) = 30
    · rw [decide_eq_true c1, if_neg (show ¬ b2i true = 0 by decide), if_pos (Or.inl c1)]
      exact deep
    · rw [decide_eq_false c1, if_pos (show b2i false = 0 from rfl), show (5 : Int32) = nI 5 from rfl, k_is h.1 h.2.2.1 h.2.1 (by omega), bd_s]
      by_cases c2 : term b T (ps b T j) = 5
      · rw [decide_eq_true c2, if_neg (show ¬ b2i true = 0 by decide), if_pos (Or.inr c2)]
        exact deep
      · rw [decide_eq_false c2, if_pos (show b2i false = 0 from rfl), if_neg (by omega)]
        unfold oX4_readAtom_25
        rw [if_pos rfl]
        exact e_plain h hl c2 c1
  | succ D ih =>
    intro k x hk hx σ j c h hl
    obtain ⟨k, rfl⟩ : ∃ z, k = z + 2 := ⟨k - 2, by omega⟩
    have hT := h.1.1
    have hle := (ps_le (b := b) (T := T) j).1
    show CLR n0 σ0 b T N c _ (oX4_readAtom (rc4 (k + 1)).2 (rc4 (k + 1)).1 85 (nI x) σ) _
    have e20 : oX4_readAtom_20 (rc4 (k + 1)).2 (rc4 (k + 1)).1 85 (nI x) σ = oX4_readAtom_41 (rc4 (k + 1)).2 (rc4 (k + 1)).1 85 (nI x) σ := by
      unfold oX4_readAtom_20 oX4_readAtom_25
      rw [if_neg (by decide), if_pos (show nI x < 6 from nI_lt (b := 6) (by omega) (by omega))]
    have hps : ps b T (j + 1) = nx b T (ps b T j) := rfl
    unfold oX4_readAtom lpAtom
    rw [show (30 : Int32) = nI 30 from rfl, k_is h.1 h.2.2.1 h.2.1 (by omega), bd_s]
    by_cases c1 : term b T (ps b T j) = 30
    · obtain ⟨k1, k2⟩ := h.next (by omega)
      have hn := nx_gt (b := b) k2
      have hm := ih (k + 1) (x + 1) (by omega) (by omega) _ _ _ k1 (by rw [hps]; omega)
      have g := g_atom (b := b) (T := T) D (ps b T (j + 1)) (by rw [hps]; exact hn.2)
      rw [decide_eq_true c1, if_neg (show ¬ b2i true = 0 by decide), if_pos c1, e20]
      unfold oX4_readAtom_41
      rw [show (5 : Int32) = nI 5 from rfl, k_take h.1 h.2.2.1 h.2.1 (by omega), if_neg (by omega), bd2_s, if_pos rfl, show (30 : Int32) = nI 30 from rfl, k_take h.1 h.2.2.1 h.2.1 (by omega), if_pos c1, bd2_s, if_neg (by decide), nI_1]
      rw [hps] at hm g
      cases hr : (lpAtom b T D (nx b T (ps b T j))).2 with
      | none =>
        obtain ⟨σ2, e2, e3, e4⟩ := hm.2 hr
        obtain ⟨σ3, u1, u2, u3⟩ := emit_any e4 (x := -4)
        unfold prB
        rw [hr, e2, bd2_s, u1, bd_s]
        exact CLR.no ⟨σ3, rfl, by rw [u3]; exact e3, u2⟩
      | some c2 =>
        obtain ⟨σ2, j2, e2, e3, e4⟩ := hm.1 c2 hr
        obtain ⟨g1, g2, g3, g4⟩ := g.2 c2 hr
        have gT := g.1
        obtain ⟨σ3, u1, u2⟩ := e_emit e4 (x := -4) (by rw [List.length_append]; omega)
        unfold prB
        rw [hr, e2, bd2_s, u1, bd_s]
        refine ⟨fun c3 e => ?_, fun e => nomatch e⟩
        cases e
        exact ⟨σ3, j2, rfl, e3, by simpa [List.append_assoc] using u2⟩
    · rw [decide_eq_false c1, if_pos (show b2i false = 0 from rfl), if_neg c1, show (5 : Int32) = nI 5 from rfl, k_is h.1 h.2.2.1 h.2.1 (by omega), bd_s]
      by_cases c2 : term b T (ps b T j) = 5
      · obtain ⟨k1, k2⟩ := h.next (by omega)
        have hn := nx_gt (b := b) k2
        have hm := e_so (g_atom (b := b) (T := T) D) (ih k (x + 1) (by omega) (by omega)) _ _ _ k1 (by rw [hps]; omega)
        have g := g_so (g_atom (b := b) (T := T) D) (p := ps b T (j + 1)) (by rw [hps]; exact hn.2)
        rw [decide_eq_true c2, if_neg (show ¬ b2i true = 0 by decide), if_pos c2, e20]
        unfold oX4_readAtom_41
        rw [show (5 : Int32) = nI 5 from rfl, k_take h.1 h.2.2.1 h.2.1 (by omega), if_pos c2, bd2_s, if_neg (by decide), nI_1]
        rw [hps] at hm g
        show CLR n0 σ0 b T N c _ (bd2 (oX4_readCondition (rc4 k).1 85 (nI (x + 1)) (st σ 1 5 (nI (j + 1)))) _) _
        cases hr : (lpSo b T (lpAtom b T D) (nx b T (ps b T j))).2 with
        | none =>
          obtain ⟨σ2, e2, e3, e4⟩ := hm.2 hr
          unfold prB
          rw [hr, e2, bd2_s, if_pos rfl]
          exact CLR.no ⟨σ2, rfl, e3, e4⟩
        | some c3 =>
          obtain ⟨σ2, j2, e2, e3, e4⟩ := hm.1 c3 hr
          unfold prB
          rw [hr, e2, bd2_s, if_neg (by decide), show (6 : Int32) = nI 6 from rfl, k_need e4.1 e4.2.2.1 e4.2.1 (by omega), e3]
          show CLR n0 σ0 b T N c _ _ (if term b T (lpSo b T (lpAtom b T D) (nx b T (ps b T j))).1 = 6 then _ else _)
          by_cases c4 : term b T (lpSo b T (lpAtom b T D) (nx b T (ps b T j))).1 = 6
          · obtain ⟨k3, k4⟩ := e4.next (by rw [e3]; omega)
            rw [if_pos c4, if_pos c4, bd2_s, if_neg (by decide)]
            refine ⟨fun c5 e => ?_, fun e => nomatch e⟩
            cases e
            exact ⟨_, j2 + 1, rfl, by show nx b T (ps b T j2) = _; rw [e3], k3⟩
          · rw [if_neg c4, if_neg c4, bd2_s, if_pos rfl]
            exact CLR.no ⟨_, rfl, e4.bad⟩
      · rw [decide_eq_false c2, if_pos (show b2i false = 0 from rfl), if_neg c2]
        unfold oX4_readAtom_25
        rw [if_pos rfl]
        exact e_plain h hl c2 c1
theorem e_cond : RdA n0 σ0 b T N (X4_readCondition 85 0) (lpSo b T (lpAtom b T 6)) := by
  intro σ j c h hl
  exact e_so (g_atom (b := b) (T := T) 6) (e_atom 6 39 0 (by omega) rfl) σ j c h hl
end CLAW2

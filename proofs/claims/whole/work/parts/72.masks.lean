/-! the reference reads the whole law; who would light -/
def BO (σ : Mem) : Prop := (∃ o : Bool, σ 399 15 = b2i o) ∧ ∃ o : Bool, σ 399 17 = b2i o
def MF (σ σ2 : Mem) : Prop := (∀ c, c ≠ 399 → c ≠ 400 → c ≠ 405 → σ2 c = σ c) ∧ (∀ i, i < 9 ∨ i = 12 → σ2 399 i = σ 399 i) ∧ BO σ2
def LT (t : Nat → Int32) (L : Lw) : Prop := (∀ i, 888 ≤ i → t i = 0) ∧ ((∃ T, T ≤ 400 ∧ t 2 = nI T ∧ 1 ≤ L.length ∧ t 1 = nI L.length ∧ (parseLaw (fun k => t (488 + k)) T).2 = some L) ∨ (L = [] ∧ (t 1 = nI 0 ∨ t 1 = oI none)))
section MASKS
variable {σ : Mem} {b : Nat → Int32} {T : Nat} {F : Nat → Int32} {v : View} {L : Lw}
theorem m_skip_t {τ : Mem} (h : LetR τ b T) : ∀ (m fuel a : Nat), a + m = T → m < fuel → X12_skip_0 fuel (st τ 399 11 (nI a)) = some (st τ 399 11 (nI (skp b T a))) := by
  have hT := h.1
  have hL : ∀ a, LetR (st τ 399 11 (nI a)) b T := by
    intro a
    unfold LetR at *
    rw [st_at' (by decide), st_at' (by decide), st_n (by decide), st_n (by decide)]
    exact h
  intro m
  induction m with
  | zero =>
    intro fuel a ha hf
    obtain ⟨fuel, rfl⟩ : ∃ z, fuel = z + 1 := ⟨fuel - 1, by omega⟩
    rw [X12_skip_0, (hL a).2.1, st_at, if_pos (nI_le (by omega) (by omega)), skp_T (by omega)]
  | succ m ih =>
    intro fuel a ha hf
    obtain ⟨fuel, rfl⟩ : ∃ z, fuel = z + 1 := ⟨fuel - 1, by omega⟩
    rw [X12_skip_0, (hL a).2.1, st_at, if_neg (nI_ge (by omega) (by omega)), m_letter (hL a) (by omega), bd_s, skp_s (by omega)]
    by_cases c : b a = 32
    · rw [if_pos c, if_pos c, nI_1, pu_s, bd_s, st_st]
      exact ih fuel (a + 1) (by omega) (by omega)
    · rw [if_neg c, if_neg c]
theorem Flt.skip {σ2 : Mem} {f x : Nat} (hL : LetR σ b T) (h : Flt σ σ2 f x) (hx : T ≤ x) (hx2 : x ≤ 1000) : ∃ σ3, X12_skip σ2 = some σ3 ∧ Flt σ σ3 f x := by
  have hT := hL.1
  obtain ⟨h1, ⟨a, a1, a2⟩, h3, h4, h5, h6⟩ := h
  have hL2 : LetR σ2 b T := by
    unfold LetR at *
    obtain ⟨l1, l2, l3⟩ := hL
    refine ⟨l1, by rw [h4 10 (by omega)]; exact l2, ?_⟩
    rcases l3 with ⟨q1, q2⟩ | ⟨q1, q2⟩
    · exact Or.inl ⟨by rw [h4 9 (by omega)]; exact q1, fun k hk => by rw [h3 404 (by decide) (by decide)]; exact q2 k hk⟩
    · exact Or.inr ⟨by rw [h4 9 (by omega)]; exact q1, fun k hk => by rw [h5 _ (Or.inl (by omega))]; exact q2 k hk⟩
  by_cases c : a ≤ T
  · have := m_skip_t hL2 (T - a) FU a (by omega) (FUb (by omega))
    rw [st_self a2] at this
    have hle := skp_le (b := b) c
    refine ⟨_, this, st_at' (by decide) |>.trans h1, ⟨_, by omega, st_at⟩, fun c c1 c2 => by rw [st_n c1]; exact h3 c c1 c2, fun i hi => by rw [st_at' (by omega)]; exact h4 i hi, fun i hi => by rw [st_n (by decide)]; exact h5 i hi, by rw [st_at' (by decide)]; exact h6⟩
  · refine ⟨σ2, ?_, h1, ⟨a, a1, a2⟩, h3, h4, h5, h6⟩
    unfold X12_skip
    obtain ⟨fu, hfu⟩ : ∃ z, FU = z + 1 := ⟨99999, rfl⟩
    rw [hfu, X12_skip_0, hL2.2.1, a2, if_pos (nI_le (by omega) (by omega))]
theorem m_80_flt {σ2 : Mem} {f x : Nat} {x1 x2 x3 : Int32} {rc : Int32 → Int32 → Int32 → Mem → Option (Int32 × Mem)} (hL : LetR σ b T) (h : Flt σ σ2 f x) (hf : f ≤ 1000) (hx : T ≤ x) (hx2 : x ≤ 1000) : ∃ σ3, X12_read_80 rc x1 x2 x3 σ2 = rc x1 0 (x3 + 1) σ3 ∧ Flt σ σ3 f x := by
  obtain ⟨σ3, e1, e2⟩ := h.skip hL hx hx2
  refine ⟨σ3, ?_, e2⟩
  have := e2.is hf
  unfold X12_read_80
  rw [e1, bd_s, if_neg (fun q => this.mp q)]
  rfl
theorem will_app {l : Int32 × Bool × List Int32} {a : Int32} : Lw.will F (L ++ [l]) a = if holdsC F l.2.2 = true then Lw.will F L a + l.1 else Lw.will F L a := by
  unfold Lw.will
  rw [List.foldl_append]
  rfl
theorem pass_app {l : Int32 × Bool × List Int32} : Lw.pass F (L ++ [l]) = (Lw.pass F L || (l.2.1 && holdsC F l.2.2)) := by
  unfold Lw.pass
  rw [List.any_append]
  simp
theorem g_if {w : Int32} {ps : Bool} {q : Nat} (hq : q ≤ T) : (lpIf b T w ps q).1 ≤ T := by
  unfold lpIf
  split
  · have hl := term_lt (b := b) (T := T) (p := q) (by omega)
    have hn := nx_gt (b := b) hl
    have g := g_cond (b := b) (T := T) hn.2
    cases hr : (lpSo b T (lpAtom b T 6) (nx b T q)).2 with
    | none => unfold prB; rw [hr]; exact g.1
    | some c => unfold prB; rw [hr]; exact g.1
  · exact hq
theorem g_line {p : Nat} (hp : p ≤ T) : (lpLine b T p).1 ≤ T := by
  have fig : ∀ (k : Nat → Nat → PR (Int32 × Bool × List Int32)), (∀ n q, q ≤ T → (k n q).1 ≤ T) → p < T → (prB (lpFig b T 20 (nx b T p)) k).1 ≤ T := by
    intro k hk hl
    have hn := nx_gt (b := b) hl
    unfold lpFig
    split
    · rename_i h
      have hl2 := term_lt (b := b) (T := T) (p := nx b T p) (by omega)
      exact hk _ _ (nx_gt hl2).2
    · exact hn.2
  unfold lpLine
  split
  · exact fig _ (fun n q hq => g_if hq) (term_lt (b := b) (T := T) (by omega))
  · split
    · exact fig _ (fun n q hq => g_if hq) (term_lt (b := b) (T := T) (by omega))
    · split
      · exact g_if (nx_gt (b := b) (term_lt (b := b) (T := T) (p := p) (by omega))).2
      · exact hp
theorem m_readL (hL : LetR σ b T) (h0 : σ 399 12 = oI none) (hF : FM σ F) {k0 : Int32} {ps0 : Bool} : ∀ (f fuel a p : Nat) (L : Lw), 13 ≤ L.length + f → 14 ≤ L.length + fuel → L.length ≤ 12 → a ≤ T → skp b T a = p → (∀ L2, (rdL b T (lawLine b T) 12 f L.length L p).2 = some L2 → ∃ a2, X12_read_23 fuel 1 1 (nI L.length) (PA (KP σ (Lw.will F L k0) (ps0 || Lw.pass F L)) a 0) = some (nI L2.length, PA (KP σ (Lw.will F L2 k0) (ps0 || Lw.pass F L2)) a2 0)) ∧ ((rdL b T (lawLine b T) 12 f L.length L p).2 = none → ∃ r σ2, X12_read_23 fuel 1 1 (nI L.length) (PA (KP σ (Lw.will F L k0) (ps0 || Lw.pass F L)) a 0) = some (r, σ2) ∧ Flt σ σ2 (rdL b T (lawLine b T) 12 f L.length L p).1 (T + 6)) := by
  have hT := hL.1
  intro f
  induction f with
  | zero => intro fuel a p L h1 h2 h3 ha hp; omega
  | succ f ih =>
    intro fuel a p L h1 h2 h3 ha hp
    have hle := skp_le (b := b) ha
    have hpp : skp b T p = p := by rw [← hp, skp_id ha]
    obtain ⟨fuel, rfl⟩ : ∃ z, fuel = z + 2 := ⟨fuel - 2, by omega⟩
    generalize hk : Lw.will F L k0 = k
    generalize hps : (ps0 || Lw.pass F L) = ps
    have h0k : KP σ k ps 399 12 = oI none := by rw [kp_o (by decide) (by decide)]; exact h0
    have stop : ∀ (σ2 : Mem) (x3 : Int32), X12_read_23 (fuel + 1) 1 0 x3 σ2 = some (x3, σ2) := fun σ2 x3 => by rw [X12_read_23, if_pos rfl]
    have go1 : X12_read_23 (fuel + 2) 1 1 (nI L.length) (PA (KP σ k ps) a 0) = X12_read_51 (X12_read_23 (fuel + 1)) 1 1 (nI L.length) (nI L.length) (nI 12) (PA (KP σ k ps) p 0) := by
      rw [X12_read_23, if_neg (by decide), if_pos ((pa_f h0k).mpr trivial), m_skip hL.kp ha, bd_s, if_neg (by decide), hp]
      rfl
    rw [go1]
    unfold X12_read_51 rdL
    by_cases c1 : L.length = 12
    · rw [if_pos c1, if_pos (show nI L.length = nI 12 by rw [c1]), pa_a, m_wrong (by rw [pa_o (by decide) (by decide)]; exact h0k), bd_s]
      refine ⟨fun L2 e => (nomatch e), fun _ => ?_⟩
      have f1 : Flt σ (st (PA (KP σ k ps) p 0) 399 12 (nI p)) p (T + 6) := (flt_new (σ := KP σ k ps) (by omega)).kp
      obtain ⟨σ3, e1, e2⟩ := m_80_flt (x1 := 1) (x2 := 1) (x3 := nI L.length) (rc := X12_read_23 (fuel + 1)) hL f1 (by omega) (by omega) (by omega)
      exact ⟨_, σ3, by rw [e1, stop], e2⟩
    · rw [if_neg c1, if_neg (show ¬ nI L.length = nI 12 from fun z => c1 (nI_inj (by omega) (by omega) z)), if_neg (show ¬ (1 : Int32) = 0 by decide)]
      have hm := m_lawLine hL h0 hF (k := k) (ps := ps) (a := p) (p := p) (by omega) hpp
      have g := g_line (b := b) (T := T) (p := p) (by omega)
      unfold lawLine
      cases hr : (lpLine b T p).2 with
      | none =>
        obtain ⟨σ2, e2, f2⟩ := hm.2 hr
        have e3 : prB (lpLine b T p) (fun l q => ((q, some (L ++ [l])) : PR Lw)) = ((lpLine b T p).1, none) := by unfold prB; rw [hr]
        rw [e3, prB_n, e2, bd_s]
        refine ⟨fun L2 e => (nomatch e), fun _ => ?_⟩
        obtain ⟨σ3, e4, e5⟩ := m_80_flt (x1 := 1) (x2 := 1) (x3 := nI L.length) (rc := X12_read_23 (fuel + 1)) hL f2 (by omega) (by omega) (by omega)
        exact ⟨_, σ3, by rw [e4, stop], e5⟩
      | some l =>
        obtain ⟨a2, e2, e3, e4⟩ := hm.1 l hr
        have e5 : prB (lpLine b T p) (fun l q => ((q, some (L ++ [l])) : PR Lw)) = ((lpLine b T p).1, some (L ++ [l])) := by unfold prB; rw [hr]
        have hk2 : (if holdsC F l.2.2 = true then k + l.1 else k) = Lw.will F (L ++ [l]) k0 := by rw [will_app, hk]
        have hp2 : (ps || (l.2.1 && holdsC F l.2.2)) = (ps0 || Lw.pass F (L ++ [l])) := by rw [pass_app, ← Bool.or_assoc, hps]
        rw [hk2, hp2] at e2
        rw [e5, prB_s, e2, bd_s]
        have h0k2 : KP σ (Lw.will F (L ++ [l]) k0) (ps0 || Lw.pass F (L ++ [l])) 399 12 = oI none := by rw [kp_o (by decide) (by decide)]; exact h0
        have hlen : (L ++ [l]).length = L.length + 1 := by simp
        unfold X12_read_80 X12_read_106
        rw [m_skip hL.kp e3, bd_s, if_pos ((pa_f h0k2).mpr trivial), pa_a, hL.kp.pa.2.1, e4]
        by_cases c2 : T ≤ (lpLine b T p).1
        · rw [if_pos c2, if_pos (show nI (lpLine b T p).1 = nI T by rw [show (lpLine b T p).1 = T by omega]), stop]
          refine ⟨fun L2 e => ?_, fun e => nomatch e⟩
          cases e
          exact ⟨_, by rw [hlen, nI_1]⟩
        · rw [if_neg c2, if_neg (show ¬ nI (lpLine b T p).1 = nI T from fun z => by have := nI_inj (by omega) (by omega) z; omega), m_sign hL.kp (p := (lpLine b T p).1) (by omega) (by rw [← e4, skp_id e3]) (s := 1) (by simp), bd2_s]
          by_cases c3 : term b T (lpLine b T p).1 = 4
          · have hl3 := term_lt (b := b) (T := T) (p := (lpLine b T p).1) (by omega)
            have he3 := sign_end (b := b) (T := T) (s := 1) (by omega) c3
            rw [if_pos c3, decide_eq_true (show term b T (lpLine b T p).1 = 1 + 3 from c3), if_neg (show ¬ b2i true = 0 by decide), pa_a, nI_1, pu_s, bd_s, pa_st, nI_1, ← hlen]
            exact ih (fuel + 1) ((lpLine b T p).1 + 1) _ (L ++ [l]) (by omega) (by omega) (by omega) (by omega) (by rw [← he3]; rfl)
          · rw [if_neg c3, decide_eq_false (show ¬ term b T (lpLine b T p).1 = 1 + 3 from c3), if_pos (show b2i false = 0 from rfl), pa_a, m_wrong (by rw [pa_o (by decide) (by decide)]; exact h0k2), bd_s]
            refine ⟨fun L2 e => (nomatch e), fun _ => ?_⟩
            have f1 : Flt σ (st (PA (KP σ (Lw.will F (L ++ [l]) k0) (ps0 || Lw.pass F (L ++ [l]))) (lpLine b T p).1 0) 399 12 (nI (lpLine b T p).1)) (lpLine b T p).1 (T + 6) := (flt_new (σ := KP σ _ _) (by omega)).kp
            have hf := f1.is (by omega)
            exact ⟨_, _, by rw [X12_read_23, if_neg (by decide), if_neg (fun q => hf.mp q)], f1⟩
theorem m_readLaw (hL : LetR σ b T) (h0 : σ 399 12 = oI none) (hF : FM σ F) {k0 : Int32} {ps0 : Bool} (h11 : σ 399 11 = nI 0) (h13 : σ 399 13 = nI 0) (h16 : σ 399 16 = k0) (h17 : σ 399 17 = b2i ps0) : (∀ L, (parseLaw b T).2 = some L → ∃ a, X12_read 1 σ = some (nI L.length, PA (KP σ (Lw.will F L k0) (ps0 || Lw.pass F L)) a 0)) ∧ ((parseLaw b T).2 = none → ∃ r σ2, X12_read 1 σ = some (r, σ2) ∧ Flt σ σ2 (parseLaw b T).1 (T + 6)) := by
  have hT := hL.1
  have hle := skp_le (b := b) (T := T) (i := 0) (by omega)
  have hs : σ = PA (KP σ k0 ps0) 0 0 := by
    unfold PA KP
    rw [st_self (k := 399) (i := 17) h17, st_self (k := 399) (i := 16) h16, st_self (k := 399) (i := 13) h13, st_self h11]
  have e1 : X12_skip σ = some (PA (KP σ k0 ps0) (skp b T 0) 0) := by
    have := m_skip (hL.kp (k := k0) (ps := ps0)) (a := 0) (d := 0) (by omega)
    rwa [← hs] at this
  unfold X12_read X12_read_20 parseLaw rdAll
  rw [e1, bd_s, hL.kp.pa.2.1, pa_a]
  by_cases c : T ≤ skp b T 0
  · rw [if_pos c, if_pos (nI_le c (by omega))]
    refine ⟨fun L e => ?_, fun e => nomatch e⟩
    cases e
    obtain ⟨fu, hfu⟩ : ∃ z, FU = z + 1 := ⟨99999, rfl⟩
    rw [hfu, X12_read_23, if_pos rfl]
    exact ⟨_, by rw [show Lw.pass F [] = false from rfl, Bool.or_false]; rfl⟩
  · rw [if_neg c, if_neg (nI_ge (by omega) (by omega))]
    have := m_readL hL h0 hF (k0 := k0) (ps0 := ps0) 20 FU (skp b T 0) (skp b T 0) [] (by simp) (by show 14 ≤ 0 + 100000; omega) (by simp) (by omega) (skp_id (by omega))
    rw [show Lw.pass F [] = false from rfl, Bool.or_false] at this
    exact this
theorem LT.text {t : Nat → Int32} (K : LT t L) : ∃ T, T ≤ 400 ∧ (if (1 : Int32) ≤ t 1 then t 2 else 0) = nI T ∧ (parseLaw (fun k => t (488 + k)) T).2 = some L := by
  rcases K.2 with ⟨T, t1, t2, t3, t4, t5⟩ | ⟨rfl, h⟩
  · have h12 : L.length < 2 ^ 31 := by
      apply Classical.byContradiction
      intro hn
      have key : ∀ (f k : Nat) (L0 L2 : Lw) (p : Nat), (rdL (fun k => t (488 + k)) T (lawLine (fun k => t (488 + k)) T) 12 f k L0 p).2 = some L2 → L2.length ≤ L0.length + f := by
        intro f
        induction f with
        | zero => intro k L0 L2 p h; cases h; omega
        | succ f ih =>
          intro k L0 L2 p h
          unfold rdL at h
          split at h
          · cases h
          · unfold prB lawLine at h
            cases hr : (lpLine (fun k => t (488 + k)) T p).2 with
            | none => unfold prB at h; rw [hr] at h; cases h
            | some l =>
              unfold prB at h
              rw [hr] at h
              simp only at h
              split at h
              · cases h; simp
              · split at h
                · have := ih _ _ _ _ h; simp at this; omega
                · cases h
      unfold parseLaw rdAll at t5
      split at t5
      · cases t5; simp at t3
      · have := key 20 0 [] L _ t5
        simp at this
        omega
    refine ⟨T, t1, ?_, t5⟩
    rw [if_pos (show (1 : Int32) ≤ t 1 by rw [t4]; exact nI_le (a := 1) t3 h12), t2]
  · refine ⟨0, by omega, ?_, ?_⟩
    · rw [if_neg]
      · rfl
      · rcases h with h | h <;> rw [h] <;> decide
    · unfold parseLaw rdAll
      rw [if_pos (Nat.zero_le _)]
theorem of_st {k i : Nat} {x y z : Int32} (h : 400 ≠ k) : X12_of (st σ k i x) y z = X12_of σ y z := by unfold X12_of ag; rw [st_n h]
theorem ofW_st {k i : Nat} {x y z : Int32} (h : 400 ≠ k) : X12_ofWalker (st σ k i x) y z = X12_ofWalker σ y z := by unfold X12_ofWalker ag; rw [st_n h]
theorem ag_st {k i q : Nat} {x y : Int32} (h : q ≠ k) : ag (st σ k i x) q y = ag σ q y := by unfold ag; rw [st_n h]
theorem m_asks (W : WF v) (M : SM (σ 400) v) (K : LT v.txt L) {w p likes : Nat} (hw : w < v.k) (hp : p < v.n) : ∃ σ2, X12_asks (nI w) (nI p) (nI likes) σ = some σ2 ∧ σ2 399 16 = v.will L w p likes (v.tp w) ∧ σ2 399 17 = b2i (v.pass L w p likes (v.tp w)) ∧ MF σ σ2 ∧ σ2 400 = σ 400 := by
  have h9 := W.n9
  have h6 := W.k6
  have h405 : ln 405 = 7 := by decide +kernel
  have ef : ∀ (τ : Mem) (i : Nat) (x : Int32), i < 7 → au τ 405 (nI i) x = some (st τ 405 i x) := fun τ i x hi => au_nI (by omega) (by omega)
  obtain ⟨T, t1, t2, t3⟩ := K.text
  have a1 : ag σ 400 (nI 1) = some (v.txt 1) := by rw [m_at (by omega), M.txt 1 (by omega)]
  have a2 : ag σ 400 (nI 2) = some (v.txt 2) := by rw [m_at (by omega), M.txt 2 (by omega)]
  -- the memory ahead of the reading
  generalize hτ : st (st (st (st (st (st (st (st (st (st (st (st (st (st (st σ 399 16 (nI likes)) 399 17 (nI 0)) 405 0 (nI w)) 405 1 (nI p)) 405 2 (nI (v.oil p))) 405 3 (nI (v.dark p))) 405 4 (nI (v.tp w))) 405 5 (nI likes)) 405 6 (nI v.hour)) 399 15 (b2i (decide (v.own p ≠ none)))) 399 12 (oI none)) 399 9 (nI 488)) 399 10 (nI T)) 399 11 (nI 0)) 399 13 (nI 0) = τ
  have run : X12_asks (nI w) (nI p) (nI likes) σ = bd2 (X12_read (nI 1) τ) fun _ σ153 => some (st σ153 399 12 (σ 399 12)) := by
    have e96 : ∀ (ow : Bool) (ρ : Mem), ρ 400 = σ 400 → ρ 399 12 = σ 399 12 → X12_asks_96 (b2i ow) ρ = bd2 (X12_read (nI 1) (st (st (st (st (st (st ρ 399 15 (b2i ow)) 399 12 (oI none)) 399 9 (nI 488)) 399 10 (nI T)) 399 11 (nI 0)) 399 13 (nI 0))) fun _ σ153 => some (st σ153 399 12 (σ 399 12)) := by
      intro ow ρ hρ hρ2
      have b1 : ∀ y, ag ρ 400 y = ag σ 400 y := fun y => by unfold ag; rw [hρ]
      unfold X12_asks_96 X12_asks_138
      simp -implicitDefEqProofs (disch := omega) only [ag_st, b1, a1, a2, bd_s, bd2_s, bdx_l, bdx_r, bdx2_l, bdx2_r, pu_s, gb0, gb1, gb_b, li0, li1, li2, li3, li4, li5, li6, li7, li8, li9, li10, li11, li12, li13, li14, li15, li16, li17, li18, li19, li20, li21, li22, li23, li24, li25, li26, li27, li28, li29, li30, li31, li32, li39, li40, li41, li43, li47, li48, li57, li59, li60, li62, li63, li64, li81, li97, li99, li100, li122, li128, li152, li188, li189, li190, li191, li192, li255, li299, li380, li400, li488, li888, li999, li1000, li5368, li9999, neg1, b2i_z, b2i_o, b2i_e, b2i_t, b2i_f, oI_s, nI_on, on_nI, on_on, le_on, on_lt, on_le, lt_on, nI_leI, nI_ltI, nI_eq, nI_add, nI_mul, nI_subN, nI_subon, nI_addon, sh1, xorN, ite_true, ite_false, if_true, if_false, not_true_eq_false, not_false_eq_true, reduceCtorEq]
      rw [show st ρ 399 15 (b2i ow) 399 12 = σ 399 12 from by rw [st_at' (by decide), hρ2]]
      rw [show (1 : Int32) = nI 1 from rfl, show (0 : Int32) = nI 0 from rfl] at t2
      by_cases c : nI 1 ≤ v.txt 1
      · rw [if_pos c] at t2 ⊢; rw [t2]
      · rw [if_neg c] at t2 ⊢; rw [t2]
    unfold X12_asks
    simp -implicitDefEqProofs (disch := omega) only [ef, of_st, ofW_st, ag_st, bd_s, bd2_s, bdx_l, bdx_r, bdx2_l, bdx2_r, pu_s, gb0, gb1, gb_b, li0, li1, li2, li3, li4, li5, li6, li7, li8, li9, li10, li11, li12, li13, li14, li15, li16, li17, li18, li19, li20, li21, li22, li23, li24, li25, li26, li27, li28, li29, li30, li31, li32, li39, li40, li41, li43, li47, li48, li57, li59, li60, li62, li63, li64, li81, li97, li99, li100, li122, li128, li152, li188, li189, li190, li191, li192, li255, li299, li380, li400, li488, li888, li999, li1000, li5368, li9999, neg1, b2i_z, b2i_o, b2i_e, b2i_t, b2i_f, oI_s, nI_on, on_nI, on_on, le_on, on_lt, on_le, lt_on, nI_leI, nI_ltI, nI_eq, nI_add, nI_mul, nI_subN, nI_subon, nI_addon, sh1, xorN, ite_true, ite_false, if_true, if_false, not_true_eq_false, not_false_eq_true, reduceCtorEq, o_oil W M, o_burn W M, o_own W M, o_dark W M, o_pl W M, o_tp W M, o_hd W M, o_lt W M, a_n M, a_k M, a_hour M, a_night M, a_fog M, a_mist M, a_logs M, a_seed M, a_texts M, e_isOf, hbE, m_isWay W M, m_far W M, m_nextTo W M, m_liking W M, m_likesOwner W M, m_lesser, m_greater, m_isIn, far_on, own_on W, hd_on W, own_is W, hd_is W]
    by_cases c : v.own p = none
    · rw [if_pos c, show nI 0 = b2i false from rfl, e96 false _ (by simp only [st_n, ne_eq, Nat.reduceEqDiff, not_false_eq_true]) (by simp only [st_n, st_at', ne_eq, Nat.reduceEqDiff, not_false_eq_true])]
      rw [show (decide (v.own p ≠ none)) = false by simp [c]] at hτ
      rw [← hτ]; rfl
    · rw [if_neg c, show nI 1 = b2i true from rfl, e96 true _ (by simp only [st_n, ne_eq, Nat.reduceEqDiff, not_false_eq_true]) (by simp only [st_n, st_at', ne_eq, Nat.reduceEqDiff, not_false_eq_true])]
      rw [show (decide (v.own p ≠ none)) = true by simp [c]] at hτ
      rw [← hτ]; rfl
  have q : ∀ i, τ 399 i = if i = 13 then nI 0 else if i = 11 then nI 0 else if i = 10 then nI T else if i = 9 then nI 488 else if i = 12 then oI none else if i = 15 then b2i (decide (v.own p ≠ none)) else if i = 17 then nI 0 else if i = 16 then nI likes else σ 399 i := by
    intro i
    rw [← hτ]
    simp only [st_ap, Nat.reduceEqDiff, true_and, false_and, if_false]
  have q405 : ∀ i, τ 405 i = if i = 6 then nI v.hour else if i = 5 then nI likes else if i = 4 then nI (v.tp w) else if i = 3 then nI (v.dark p) else if i = 2 then nI (v.oil p) else if i = 1 then nI p else if i = 0 then nI w else σ 405 i := by
    intro i
    rw [← hτ]
    simp only [st_ap, Nat.reduceEqDiff, true_and, false_and, if_false]
  have qn : ∀ c, c ≠ 399 → c ≠ 405 → τ c = σ c := by
    intro c c1 c2
    rw [← hτ]
    simp only [st_n, ne_eq, c1, c2, not_false_eq_true]
  have hL : LetR τ (fun k => v.txt (488 + k)) T := by
    refine ⟨t1, by rw [q]; rfl, Or.inr ⟨by rw [q]; rfl, fun k hk => by rw [qn 400 (by decide) (by decide), M.txt _ (by omega)]⟩⟩
  have hF : FM τ (v.facts w p likes (v.tp w)) := by
    refine ⟨?_, ?_, ?_, ?_, ?_, ?_, ?_, ⟨decide (v.own p ≠ none), rfl, by rw [q]; rfl⟩, ⟨v.mist, rfl, by rw [qn 400 (by decide) (by decide), M.mist]⟩⟩ <;> (rw [q405]; rfl)
  have hr := (m_readLaw hL (by rw [q]; rfl) hF (k0 := nI likes) (ps0 := false) (by rw [q]; rfl) (by rw [q]; rfl) (by rw [q]; rfl) (by rw [q]; rfl)).1 L t3
  obtain ⟨a, e⟩ := hr
  rw [show nI 1 = (1 : Int32) from rfl, e, bd2_s] at run
  refine ⟨_, run, ?_, ?_, ⟨fun c c1 c2 c3 => ?_, fun i hi => ?_, ?_⟩, ?_⟩
  · rw [st_at' (by decide), pa_o (by decide) (by decide), kp_k]; rfl
  · rw [st_at' (by decide), pa_o (by decide) (by decide), kp_p, Bool.false_or]; rfl
  · rw [st_n c1, pa_n c1, kp_n c1, qn c c1 c3]
  · by_cases c : i = 12
    · rw [c, st_at]
    · rw [st_at' c, pa_o (by omega) (by omega), kp_o (by omega) (by omega), q]
      have : i < 9 := by omega
      rw [if_neg (by omega), if_neg (by omega), if_neg (by omega), if_neg (by omega), if_neg (by omega), if_neg (by omega), if_neg (by omega), if_neg (by omega)]
  · exact ⟨⟨decide (v.own p ≠ none), by rw [st_at' (by decide), pa_o (by decide) (by decide), kp_o (by decide) (by decide), q]; rfl⟩, ⟨false || Lw.pass (v.facts w p likes (v.tp w)) L, by rw [st_at' (by decide), pa_o (by decide) (by decide), kp_p]⟩⟩
  · rw [st_n (by decide), pa_n (by decide), kp_n (by decide), qn 400 (by decide) (by decide)]
theorem m_wouldLight (W : WF v) (M : SM (σ 400) v) (K : LT v.txt L) (hb : BO σ) {w p likes : Nat} (hw : w < v.k) (hp : p < v.n) : ∃ σ2, X12_wouldLight (nI w) (nI p) (nI likes) σ = some (b2i (v.lits L w p likes (v.tp w)), σ2) ∧ MF σ σ2 ∧ σ2 400 = σ 400 := by
  have h9 := W.n9
  have h6 := W.k6
  have ht := W.tp w hw
  have ho := W.oil p hp
  have same : MF σ σ ∧ σ 400 = σ 400 := ⟨⟨fun c _ _ _ => rfl, fun i _ => rfl, hb⟩, rfl⟩
  unfold X12_wouldLight View.lits
  by_cases c1 : v.tp w = 0
  · simp -implicitDefEqProofs (disch := omega) only [c1, bd_s, bd2_s, bdx_l, bdx_r, bdx2_l, bdx2_r, pu_s, gb0, gb1, gb_b, li0, li1, li2, li3, li4, li5, li6, li7, li8, li9, li10, li11, li12, li13, li14, li15, li16, li17, li18, li19, li20, li21, li22, li23, li24, li25, li26, li27, li28, li29, li30, li31, li32, li39, li40, li41, li43, li47, li48, li57, li59, li60, li62, li63, li64, li81, li97, li99, li100, li122, li128, li152, li188, li189, li190, li191, li192, li255, li299, li380, li400, li488, li888, li999, li1000, li5368, li9999, neg1, b2i_z, b2i_o, b2i_e, b2i_t, b2i_f, oI_s, nI_on, on_nI, on_on, le_on, on_lt, on_le, lt_on, nI_leI, nI_ltI, nI_eq, nI_add, nI_mul, nI_subN, nI_subon, nI_addon, sh1, xorN, ite_true, ite_false, if_true, if_false, not_true_eq_false, not_false_eq_true, reduceCtorEq, o_oil W M, o_burn W M, o_own W M, o_dark W M, o_pl W M, o_tp W M, o_hd W M, o_lt W M, a_n M, a_k M, a_hour M, a_night M, a_fog M, a_mist M, a_logs M, a_seed M, a_texts M, e_isOf, hbE, m_isWay W M, m_far W M, m_nextTo W M, m_liking W M, m_likesOwner W M, m_lesser, m_greater, m_isIn, far_on, own_on W, hd_on W, own_is W, hd_is W]; exact ⟨σ, rfl, same⟩
  · by_cases c2 : v.burn p = true
    · simp -implicitDefEqProofs (disch := omega) only [c1, c2, bd_s, bd2_s, bdx_l, bdx_r, bdx2_l, bdx2_r, pu_s, gb0, gb1, gb_b, li0, li1, li2, li3, li4, li5, li6, li7, li8, li9, li10, li11, li12, li13, li14, li15, li16, li17, li18, li19, li20, li21, li22, li23, li24, li25, li26, li27, li28, li29, li30, li31, li32, li39, li40, li41, li43, li47, li48, li57, li59, li60, li62, li63, li64, li81, li97, li99, li100, li122, li128, li152, li188, li189, li190, li191, li192, li255, li299, li380, li400, li488, li888, li999, li1000, li5368, li9999, neg1, b2i_z, b2i_o, b2i_e, b2i_t, b2i_f, oI_s, nI_on, on_nI, on_on, le_on, on_lt, on_le, lt_on, nI_leI, nI_ltI, nI_eq, nI_add, nI_mul, nI_subN, nI_subon, nI_addon, sh1, xorN, ite_true, ite_false, if_true, if_false, not_true_eq_false, not_false_eq_true, reduceCtorEq, o_oil W M, o_burn W M, o_own W M, o_dark W M, o_pl W M, o_tp W M, o_hd W M, o_lt W M, a_n M, a_k M, a_hour M, a_night M, a_fog M, a_mist M, a_logs M, a_seed M, a_texts M, e_isOf, hbE, m_isWay W M, m_far W M, m_nextTo W M, m_liking W M, m_likesOwner W M, m_lesser, m_greater, m_isIn, far_on, own_on W, hd_on W, own_is W, hd_is W]; exact ⟨σ, rfl, same⟩
    · have c2' : v.burn p = false := by simpa using c2
      by_cases c3 : v.oil p = 0
      · simp -implicitDefEqProofs (disch := omega) only [c1, c2', c3, Bool.false_eq_true, bd_s, bd2_s, bdx_l, bdx_r, bdx2_l, bdx2_r, pu_s, gb0, gb1, gb_b, li0, li1, li2, li3, li4, li5, li6, li7, li8, li9, li10, li11, li12, li13, li14, li15, li16, li17, li18, li19, li20, li21, li22, li23, li24, li25, li26, li27, li28, li29, li30, li31, li32, li39, li40, li41, li43, li47, li48, li57, li59, li60, li62, li63, li64, li81, li97, li99, li100, li122, li128, li152, li188, li189, li190, li191, li192, li255, li299, li380, li400, li488, li888, li999, li1000, li5368, li9999, neg1, b2i_z, b2i_o, b2i_e, b2i_t, b2i_f, oI_s, nI_on, on_nI, on_on, le_on, on_lt, on_le, lt_on, nI_leI, nI_ltI, nI_eq, nI_add, nI_mul, nI_subN, nI_subon, nI_addon, sh1, xorN, ite_true, ite_false, if_true, if_false, not_true_eq_false, not_false_eq_true, reduceCtorEq, o_oil W M, o_burn W M, o_own W M, o_dark W M, o_pl W M, o_tp W M, o_hd W M, o_lt W M, a_n M, a_k M, a_hour M, a_night M, a_fog M, a_mist M, a_logs M, a_seed M, a_texts M, e_isOf, hbE, m_isWay W M, m_far W M, m_nextTo W M, m_liking W M, m_likesOwner W M, m_lesser, m_greater, m_isIn, far_on, own_on W, hd_on W, own_is W, hd_is W]; exact ⟨σ, rfl, same⟩
      · by_cases c4 : v.own p = some w
        · have e4 : oI (v.own p) = nI w := by rw [c4]; rfl
          simp -implicitDefEqProofs (disch := omega) only [c1, c2', c3, e4, Bool.false_eq_true, bd_s, bd2_s, bdx_l, bdx_r, bdx2_l, bdx2_r, pu_s, gb0, gb1, gb_b, li0, li1, li2, li3, li4, li5, li6, li7, li8, li9, li10, li11, li12, li13, li14, li15, li16, li17, li18, li19, li20, li21, li22, li23, li24, li25, li26, li27, li28, li29, li30, li31, li32, li39, li40, li41, li43, li47, li48, li57, li59, li60, li62, li63, li64, li81, li97, li99, li100, li122, li128, li152, li188, li189, li190, li191, li192, li255, li299, li380, li400, li488, li888, li999, li1000, li5368, li9999, neg1, b2i_z, b2i_o, b2i_e, b2i_t, b2i_f, oI_s, nI_on, on_nI, on_on, le_on, on_lt, on_le, lt_on, nI_leI, nI_ltI, nI_eq, nI_add, nI_mul, nI_subN, nI_subon, nI_addon, sh1, xorN, ite_true, ite_false, if_true, if_false, not_true_eq_false, not_false_eq_true, reduceCtorEq, o_oil W M, o_burn W M, o_own W M, o_dark W M, o_pl W M, o_tp W M, o_hd W M, o_lt W M, a_n M, a_k M, a_hour M, a_night M, a_fog M, a_mist M, a_logs M, a_seed M, a_texts M, e_isOf, hbE, m_isWay W M, m_far W M, m_nextTo W M, m_liking W M, m_likesOwner W M, m_lesser, m_greater, m_isIn, far_on, own_on W, hd_on W, own_is W, hd_is W]
          rw [if_pos c4]
          exact ⟨σ, rfl, same⟩
        · have e4 : ¬ oI (v.own p) = nI w := fun z => c4 ((own_is W hp (by omega)).mp z)
          simp -implicitDefEqProofs (disch := omega) only [c1, c2', c3, c4, e4, Bool.false_eq_true, bd_s, bd2_s, bdx_l, bdx_r, bdx2_l, bdx2_r, pu_s, gb0, gb1, gb_b, li0, li1, li2, li3, li4, li5, li6, li7, li8, li9, li10, li11, li12, li13, li14, li15, li16, li17, li18, li19, li20, li21, li22, li23, li24, li25, li26, li27, li28, li29, li30, li31, li32, li39, li40, li41, li43, li47, li48, li57, li59, li60, li62, li63, li64, li81, li97, li99, li100, li122, li128, li152, li188, li189, li190, li191, li192, li255, li299, li380, li400, li488, li888, li999, li1000, li5368, li9999, neg1, b2i_z, b2i_o, b2i_e, b2i_t, b2i_f, oI_s, nI_on, on_nI, on_on, le_on, on_lt, on_le, lt_on, nI_leI, nI_ltI, nI_eq, nI_add, nI_mul, nI_subN, nI_subon, nI_addon, sh1, xorN, ite_true, ite_false, if_true, if_false, not_true_eq_false, not_false_eq_true, reduceCtorEq, o_oil W M, o_burn W M, o_own W M, o_dark W M, o_pl W M, o_tp W M, o_hd W M, o_lt W M, a_n M, a_k M, a_hour M, a_night M, a_fog M, a_mist M, a_logs M, a_seed M, a_texts M, e_isOf, hbE, m_isWay W M, m_far W M, m_nextTo W M, m_liking W M, m_likesOwner W M, m_lesser, m_greater, m_isIn, far_on, own_on W, hd_on W, own_is W, hd_is W]
          obtain ⟨σ2, q1, q2, q3, q4, q5⟩ := m_asks W M K (likes := likes) hw hp
          rw [q1, bd_s, q2, q3, show nI 5 = (5 : Int32) from rfl]
          by_cases c5 : v.will L w p likes (v.tp w) < 5
          · rw [if_pos c5, if_pos c5]; exact ⟨σ2, rfl, q4, q5⟩
          · rw [if_neg c5, if_neg c5]
            cases hq : v.pass L w p likes (v.tp w) with
            | true => exact ⟨σ2, rfl, q4, q5⟩
            | false => exact ⟨σ2, rfl, q4, q5⟩
theorem m_doesLight (W : WF v) (M : SM (σ 400) v) (K : LT v.txt L) (hb : BO σ) {w p : Nat} (hw : w < v.k) (hp : p < v.n) : ∃ σ2, X12_doesLight (nI w) (nI p) σ = some (b2i (v.lits L w p (v.lo w p) (v.tp w)), σ2) ∧ MF σ σ2 ∧ σ2 400 = σ 400 := by
  obtain ⟨σ2, q1, q2⟩ := m_wouldLight W M K hb (likes := v.lo w p) hw hp
  unfold X12_doesLight
  rw [m_likesOwner W M hw hp, bd_s, q1, bd2_s, gb_b, bd_s]
  exact ⟨σ2, rfl, q2⟩
end MASKS

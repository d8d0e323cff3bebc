/-! which pane to ask at -/
noncomputable def View.cls (v : View) (F : Nat → Bool) (p : Nat) (d : Option Nat) (i : Nat) : Nat := cntB (fun q => F q && decide (v.far p q = d)) i
def SupA (v : View) (F : Nat → Bool) (p m i M : Nat) : Prop := (∀ q, q < i → F q = true → v.cls F p (v.far p q) m ≤ M) ∧ (M = 0 ∨ ∃ q, q < i ∧ F q = true ∧ v.cls F p (v.far p q) m = M)
def ixF : Option Nat → Nat
  | none => 0
  | some t => t + 1
section ASK
variable {σ σ1 σ2 : Mem} {v u : View} {L : Lw} {j e T N : Nat} {x1 x2 x3 x4 x5 : Int32} {F : Nat → Bool}
theorem cls_s {p i : Nat} {d : Option Nat} : v.cls F p d (i + 1) = v.cls F p d i + (if (F i && decide (v.far p i = d)) = true then 1 else 0) := rfl
theorem sup_one {p m i M M2 : Nat} (h : SupA v F p m i M) (h2 : SupA v F p m i M2) : M = M2 := by
  have a : ∀ {M M2 : Nat}, SupA v F p m i M → SupA v F p m i M2 → M ≤ M2 := by
    intro M M2 h h2
    rcases h.2 with h3 | ⟨q, q1, q2, q3⟩
    · omega
    · rw [← q3]; exact h2.1 q q1 q2
  exact Nat.le_antisymm (a h h2) (a h2 h)
theorem ixF_inj {a b : Option Nat} (h : ixF a = ixF b) : a = b := by
  cases a <;> cases b <;> simp [ixF] at h ⊢ <;> omega
theorem oI_ix {d : Option Nat} (hd : ∀ t, d = some t → t < 9) : oI d - (-1) = nI (ixF d) := by
  cases d with
  | none => rfl
  | some t =>
    show nI t - (-1) = nI (t + 1)
    rw [← nI_1, Int32.sub_eq_add_neg]; rfl
theorem e_great (W : WF v) (R : SC σ 9 v e) {p : Nat} (hp : p < v.n) : ∃ σ2 M, X5_greatestPart 9 (mkB F v.n) (nI p) σ = some (nI M, σ2) ∧ SupA v F p v.n v.n M ∧ ∀ c, c ≠ 395 → σ2 c = σ c := by
  have h9 := W.n9
  have l395 : ln 395 = 10 := by decide +kernel
  have l3 : ln (394 + 1) = 10 := l395
  obtain ⟨τ, t1, t2, t3⟩ := e_fill (σ := σ) l395 (by omega) (x := 0)
  unfold X5_greatestPart X6_fill
  rw [show (394 : Nat) + 1 = 395 from rfl, t1, bd_s, bd_s, show (0 : Int32) = nI 0 from rfl]
  have fl : ∀ q t, v.far p q = some t → t < 9 := fun q t h => far_lt h
  refine loop_P (L := fun f (a : Nat × Mem) i => X5_greatestPart_14 f 9 (mkB F v.n) (nI p) (nI a.1) i a.2) (P := fun i a => SupA v F p i i a.1 ∧ a.1 ≤ i ∧ (∀ d : Option Nat, (∀ t, d = some t → t < 9) → a.2 395 (ixF d) = nI (v.cls F p d i)) ∧ ∀ c, c ≠ 395 → a.2 c = σ c) (Q := fun r => ∃ σ2 M, r = some (nI M, σ2) ∧ SupA v F p v.n v.n M ∧ ∀ c, c ≠ 395 → σ2 c = σ c) (n := v.n) (a := (0, τ)) (fun f a hP => ?_) (fun f a i hi hP => Or.inr ?_) (Nat.zero_le _) (FUb (by omega)) ⟨⟨fun q h => absurd h (by omega), Or.inl rfl⟩, Nat.le_refl _, fun d hd => ?_, t3⟩
  · obtain ⟨p1, p2, p3, p4⟩ := hP
    refine ⟨a.2, a.1, ?_, p1, p4⟩
    show X5_greatestPart_14 (f + 1) 9 (mkB F v.n) (nI p) (nI a.1) (nI v.n) a.2 = _
    rw [X5_greatestPart_14, show a.2 9 0 = nI v.n from by rw [p4 9 (by decide)]; exact R.n, if_pos (nI_le (Nat.le_refl _) (by omega))]
  · obtain ⟨M, ρ⟩ := a
    obtain ⟨p1, p2, p3, p4⟩ := hP
    simp only at p1 p2 p3 p4 ⊢
    have Rρ : SC ρ 9 v e := R.move fun c c1 c2 => p4 c (by omega)
    rw [X5_greatestPart_14, Rρ.n, if_neg (nI_ge hi (by omega)), e_hasBit, hb_mk (by omega) (by omega), decide_eq_true hi, Bool.true_and, bd_s, nI_1]
    cases hF : F i with
    | false =>
      rw [if_pos (show b2i false = 0 from rfl)]
      have hc : ∀ d, v.cls F p d (i + 1) = v.cls F p d i := fun d => by rw [cls_s, hF]; rfl
      refine ⟨(M, ρ), rfl, ⟨fun q q1 q2 => ?_, ?_⟩, by omega, fun d hd => by rw [hc]; exact p3 d hd, p4⟩
      · rw [hc]
        by_cases e : q = i
        · rw [e, hF] at q2; cases q2
        · exact p1.1 q (by omega) q2
      · rcases p1.2 with h | ⟨q, q1, q2, q3⟩
        · exact Or.inl h
        · exact Or.inr ⟨q, by omega, q2, by rw [hc]; exact q3⟩
    | true =>
      have hd := fl i
      have hix : ixF (v.far p i) < 10 := by
        cases hh : v.far p i with
        | none => exact Nat.zero_lt_succ _
        | some t => have := hd t hh; show t + 1 < 10; omega
      have hc : ∀ d, v.cls F p d (i + 1) = v.cls F p d i + (if v.far p i = d then 1 else 0) := fun d => by
        rw [cls_s, hF, Bool.true_and]
        congr 1
        by_cases c : v.far p i = d
        · rw [if_pos c, if_pos (decide_eq_true c)]
        · rw [if_neg c, if_neg (by simpa using c)]
      have hlt : v.cls F p (v.far p i) i ≤ i := cntB_le
      rw [if_neg (show ¬ b2i true = 0 by decide), e_far kd9' W Rρ hp hi, bd_s, oI_ix hd]
      unfold X6_add
      rw [if_neg (nI_pos (by omega)), if_neg (nI_ge (by rw [l3]; omega) (by rw [l3]; omega)), ag_nI (by rw [l3]; omega) (by omega), bd_s, au_nI (by rw [l3]; omega) (by omega), bd_s, bd_s, e_get (by rw [l3]; omega) (by rw [l3]; decide), bd_s, show (394 : Nat) + 1 = 395 from rfl, st_at, p3 _ hd, nI_1]
      have hci : v.cls F p (v.far p i) (i + 1) = v.cls F p (v.far p i) i + 1 := by rw [hc, if_pos rfl]
      refine ⟨(max M (v.cls F p (v.far p i) i + 1), st ρ 395 (ixF (v.far p i)) (nI (v.cls F p (v.far p i) i + 1))), ?_, ⟨fun q q1 q2 => ?_, ?_⟩, by simp only; omega, fun d hd2 => ?_, fun c hc => (st_n hc).trans (p4 c hc)⟩
      · simp only
        congr 1
        by_cases c : M < v.cls F p (v.far p i) i + 1
        · rw [if_pos (nI_lt c (by omega)), Nat.max_eq_right (by omega)]
        · rw [if_neg (nI_nlt (by omega) (by omega)), Nat.max_eq_left (by omega)]
      · simp only
        rw [hc]
        by_cases c : v.far p i = v.far p q
        · rw [if_pos c, ← c]; exact Nat.le_max_right _ _
        · rw [if_neg c]
          by_cases e : q = i
          · rw [e] at c; exact absurd rfl c
          · exact Nat.le_trans (p1.1 q (by omega) q2) (Nat.le_max_left _ _)
      · right
        simp only
        by_cases c : M < v.cls F p (v.far p i) i + 1
        · exact ⟨i, by omega, hF, by rw [hci, Nat.max_eq_right (by omega)]⟩
        · rcases p1.2 with h | ⟨q, q1, q2, q3⟩
          · omega
          · have hne : ¬ v.far p i = v.far p q := by
              intro z
              rw [← z] at q3
              omega
            exact ⟨q, by omega, q2, by rw [hc, if_neg hne, Nat.max_eq_left (by omega)]; exact q3⟩
      · simp only
        by_cases c : v.far p i = d
        · rw [← c, st_at, hci]
        · rw [st_at' (fun z => c (ixF_inj z.symm)), p3 d hd2, hc, if_neg c]; rfl
  · have : ixF d < 10 := by
      cases d with
      | none => exact Nat.zero_lt_succ _
      | some t => have := hd t rfl; show t + 1 < 10; omega
    show τ 395 (ixF d) = _
    rw [t2 _ this]; rfl
noncomputable def mxF (v : View) (F : Nat → Bool) (p : Nat) : Nat → Nat := iterN (fun a q => if F q = true then max a (v.cls F p (v.far p q) v.n) else a) 0
theorem mxF_sup {p : Nat} : ∀ i, SupA v F p v.n i (mxF v F p i) := by
  intro i
  induction i with
  | zero => exact ⟨fun q h => absurd h (by omega), Or.inl rfl⟩
  | succ i ih =>
    have hs : mxF v F p (i + 1) = if F i = true then max (mxF v F p i) (v.cls F p (v.far p i) v.n) else mxF v F p i := rfl
    rw [hs]
    by_cases c : F i = true
    · rw [if_pos c]
      refine ⟨fun q q1 q2 => ?_, ?_⟩
      · by_cases e : q = i
        · rw [e]; exact Nat.le_max_right _ _
        · exact Nat.le_trans (ih.1 q (by omega) q2) (Nat.le_max_left _ _)
      · by_cases d : mxF v F p i ≤ v.cls F p (v.far p i) v.n
        · exact Or.inr ⟨i, by omega, c, (Nat.max_eq_right d).symm⟩
        · rw [Nat.max_eq_left (by omega)]
          rcases ih.2 with h | ⟨q, q1, q2, q3⟩
          · exact Or.inl h
          · exact Or.inr ⟨q, by omega, q2, q3⟩
    · rw [if_neg c]
      refine ⟨fun q q1 q2 => ?_, ?_⟩
      · by_cases e : q = i
        · rw [e] at q2; exact absurd q2 c
        · exact ih.1 q (by omega) q2
      · rcases ih.2 with h | ⟨q, q1, q2, q3⟩
        · exact Or.inl h
        · exact Or.inr ⟨q, by omega, q2, q3⟩
theorem mxF_le {p : Nat} (i : Nat) : mxF v F p i ≤ v.n := by
  rcases (mxF_sup (v := v) (F := F) (p := p) i).2 with h | ⟨q, q1, q2, q3⟩
  · omega
  · rw [← q3]; exact cntB_le
theorem m_asFar (W : WF v) (M : SM (σ 400) v) {p q : Nat} (hp : p < v.n) (hq : q < v.n) : X12_asFar σ (mkB F v.n) (nI p) (nI q) = some (nI (v.cls F p (v.far p q) v.n)) := by
  have h9 := W.n9
  unfold X12_asFar
  rw [show (0 : Int32) = nI 0 from rfl]
  refine loop_P (L := fun f (a : Int32) i => X12_asFar_6 σ f (mkB F v.n) (nI p) (nI q) a i) (P := fun i a => a = nI (v.cls F p (v.far p q) i)) (Q := fun r => r = some (nI (v.cls F p (v.far p q) v.n))) (n := v.n) (a := nI 0) (fun f a hP => ?_) (fun f a i hi hP => Or.inr ⟨nI (v.cls F p (v.far p q) (i + 1)), ?_, rfl⟩) (Nat.zero_le _) (FUb (by omega)) rfl
  · rw [X12_asFar_6, show (3 : Int32) = nI 3 from rfl, a_n M, bd_s, if_pos (nI_le (Nat.le_refl _) (by omega)), hP]
  · rw [X12_asFar_6, show (3 : Int32) = nI 3 from rfl, a_n M, bd_s, if_neg (nI_ge hi (by omega)), e_isOf, hb_mk (by omega) (by omega), decide_eq_true hi, Bool.true_and, bd_s, m_far W M hp hi, bd_s, m_far W M hp hq, bd_s, cls_s, hP]
    unfold X12_asFar_48 X12_asFar_49
    rw [nI_1]
    cases hF : F i with
    | false => rw [if_pos (show b2i false = 0 from rfl), Bool.false_and, if_neg (by decide), show (0 : Int32) = nI 0 from rfl, addz]; rfl
    | true =>
      rw [if_neg (show ¬ b2i true = 0 by decide), Bool.true_and]
      by_cases c : v.far p i = v.far p q
      · rw [if_pos (by rw [c]), if_pos (decide_eq_true c), nI_1]
      · have : ¬ oI (v.far p i) = oI (v.far p q) := by
          intro z
          apply c
          cases h1 : v.far p i with
          | none =>
            cases h2 : v.far p q with
            | none => rfl
            | some t => rw [h1, h2] at z; have := far_lt h2; exact absurd z.symm (nI_m1 (by omega))
          | some s =>
            have l1 := far_lt h1
            cases h2 : v.far p q with
            | none => rw [h1, h2] at z; exact absurd z (nI_m1 (by omega))
            | some t => rw [h1, h2] at z; have := far_lt h2; rw [nI_inj (by omega) (by omega) z]
        rw [if_neg this, if_neg (by simpa using c), show (0 : Int32) = nI 0 from rfl, addz]; rfl
noncomputable def askB (v : View) (F : Nat → Bool) : Nat → Option Nat := iterN (fun a p => match a with
  | none => some p
  | some x => if mxF v F x v.n ≤ mxF v F p v.n then some x else some p) none
theorem askB_s {i : Nat} : askB v F (i + 1) = match askB v F i with
  | none => some i
  | some x => if mxF v F x v.n ≤ mxF v F i v.n then some x else some i := rfl
theorem askB_lt {i x : Nat} (h : askB v F i = some x) : x < i := by
  induction i generalizing x with
  | zero => cases h
  | succ i ih =>
    rw [askB_s] at h
    cases ha : askB v F i with
    | none => rw [ha] at h; cases h; omega
    | some y =>
      rw [ha] at h
      simp only at h
      have := ih ha
      split at h <;> cases h <;> omega
theorem e_ask (W : WF v) (R : SC σ 9 v e) : ∃ σ2, X5_paneToAsk 9 (mkB F v.n) σ = some (oI (if 2 ≤ cntB F v.n then askB v F v.n else none), σ2) ∧ ∀ c, c ≠ 395 → σ2 c = σ c := by
  have h9 := W.n9
  have hcn := cntB_le (f := F) (n := v.n)
  unfold X5_paneToAsk
  rw [e_bitCount (by omega), bd_s]
  by_cases c : 2 ≤ cntB F v.n
  · rw [if_pos (show (2 : Int32) ≤ nI (cntB F v.n) from nI_le (a := 2) c (by omega)), if_pos c, show (0 : Int32) = nI 0 from rfl]
    refine loop_P (L := fun f (a : Option Nat × Mem) i => X5_paneToAsk_20 f 9 (mkB F v.n) (oI a.1) (a.1.elim 1000 (fun x => nI (mxF v F x v.n))) i a.2) (P := fun i a => a.1 = askB v F i ∧ ∀ c, c ≠ 395 → a.2 c = σ c) (Q := fun r => ∃ σ2, r = some (oI (askB v F v.n), σ2) ∧ ∀ c, c ≠ 395 → σ2 c = σ c) (n := v.n) (a := (none, σ)) (fun f a hP => ?_) (fun f a i hi hP => Or.inr ?_) (Nat.zero_le _) (FUb (by omega)) ⟨rfl, fun _ _ => rfl⟩
    · obtain ⟨p1, p2⟩ := hP
      refine ⟨a.2, ?_, p2⟩
      show X5_paneToAsk_20 (f + 1) 9 (mkB F v.n) _ _ (nI v.n) a.2 = _
      rw [X5_paneToAsk_20, show a.2 9 0 = nI v.n from by rw [p2 9 (by decide)]; exact R.n, if_pos (nI_le (Nat.le_refl _) (by omega)), p1]
    · obtain ⟨p1, p2⟩ := hP
      obtain ⟨a, ρ⟩ := a
      simp only at p1 p2 ⊢
      have Rρ : SC ρ 9 v e := R.move fun c c1 c2 => p2 c (by omega)
      obtain ⟨ρ2, M, g1, g2, g3⟩ := e_great (F := F) W Rρ hi
      have hM : M = mxF v F i v.n := sup_one g2 (mxF_sup v.n)
      have ml := mxF_le (v := v) (F := F) (p := i) v.n
      have f2 : ∀ c, c ≠ 395 → ρ2 c = σ c := fun c hc => by rw [g3 c hc, p2 c hc]
      rw [X5_paneToAsk_20, Rρ.n, if_neg (nI_ge hi (by omega)), g1, bd2_s, nI_1, hM]
      cases ha : a with
      | none =>
        rw [ha] at p1
        refine ⟨(some i, ρ2), ?_, by rw [askB_s, ← p1], f2⟩
        rw [show (none : Option Nat).elim (1000 : Int32) (fun x => nI (mxF v F x v.n)) = 1000 from rfl]
        rw [if_neg (show ¬ (1000 : Int32) ≤ nI (mxF v F i v.n) from nI_ge (b := 1000) (by omega) (by decide))]
        rfl
      | some x =>
        rw [ha] at p1
        have mx := mxF_le (v := v) (F := F) (p := x) v.n
        rw [show (some x).elim (1000 : Int32) (fun x => nI (mxF v F x v.n)) = nI (mxF v F x v.n) from rfl]
        by_cases d : mxF v F x v.n ≤ mxF v F i v.n
        · rw [if_pos (nI_le d (by omega))]
          exact ⟨(some x, ρ2), rfl, by rw [askB_s, ← p1]; simp only; rw [if_pos d], f2⟩
        · rw [if_neg (nI_ge (by omega) (by omega))]
          exact ⟨(some i, ρ2), rfl, by rw [askB_s, ← p1]; simp only; rw [if_neg d], f2⟩
  · rw [if_neg (show ¬ (2 : Int32) ≤ nI (cntB F v.n) from nI_ge (b := 2) (by omega) (by omega)), if_neg c]
    exact ⟨σ, rfl, fun _ _ => rfl⟩
theorem m_ask (W : WF v) (M : SM (σ 400) v) : X12_ask_52 FU (mkB F v.n) (-1) 2000000000 0 σ = some (oI (if 2 ≤ cntB F v.n then askB v F v.n else none), σ) := by
  have h9 := W.n9
  have hcn := cntB_le (f := F) (n := v.n)
  rw [show (0 : Int32) = nI 0 from rfl]
  by_cases c : 2 ≤ cntB F v.n
  · rw [if_pos c]
    refine loop_P (L := fun f (a : Option Nat) i => X12_ask_52 f (mkB F v.n) (oI a) (a.elim 2000000000 (fun x => nI (mxF v F x v.n))) i σ) (P := fun i a => a = askB v F i) (Q := fun r => r = some (oI (askB v F v.n), σ)) (n := v.n) (a := none) (fun f a hP => ?_) (fun f a i hi hP => Or.inr ⟨askB v F (i + 1), ?_, rfl⟩) (Nat.zero_le _) (FUb (by omega)) rfl
    · rw [X12_ask_52, show (3 : Int32) = nI 3 from rfl, a_n M, bd_s, if_pos (nI_le (Nat.le_refl _) (by omega)), hP]
    · have ml := mxF_le (v := v) (F := F) (p := i) v.n
      rw [X12_ask_52, show (3 : Int32) = nI 3 from rfl, a_n M, bd_s, if_neg (nI_ge hi (by omega)), m_bits (by omega), bd_s, if_neg (show ¬ nI (cntB F v.n) ≤ 1 from nI_ge (b := cntB F v.n) (a := 1) (by omega) (by omega)), show (0 : Int32) = nI 0 from rfl]
      have inner : ∀ (y : Int32), X12_ask_77 (X12_ask_52 f) FU (mkB F v.n) (oI a) y (nI i) (nI 0) (nI 0) σ = if nI (mxF v F i v.n) < y then X12_ask_52 f (mkB F v.n) (nI i) (nI (mxF v F i v.n)) (nI (i + 1)) σ else X12_ask_52 f (mkB F v.n) (oI a) y (nI (i + 1)) σ := by
        intro y
        refine loop_P (L := fun f2 (b : Int32) q => X12_ask_77 (X12_ask_52 f) f2 (mkB F v.n) (oI a) y (nI i) b q σ) (P := fun q b => b = nI (mxF v F i q)) (Q := fun r => r = if nI (mxF v F i v.n) < y then X12_ask_52 f (mkB F v.n) (nI i) (nI (mxF v F i v.n)) (nI (i + 1)) σ else X12_ask_52 f (mkB F v.n) (oI a) y (nI (i + 1)) σ) (n := v.n) (a := nI 0) (fun f2 b hb => ?_) (fun f2 b q hq hb => Or.inr ⟨nI (mxF v F i (q + 1)), ?_, rfl⟩) (Nat.zero_le _) (FUb (by omega)) rfl
        · rw [X12_ask_77, show (3 : Int32) = nI 3 from rfl, a_n M, bd_s, if_pos (nI_le (Nat.le_refl _) (by omega)), hb, nI_1]
        · have hs : mxF v F i (q + 1) = if F q = true then max (mxF v F i q) (v.cls F i (v.far i q) v.n) else mxF v F i q := rfl
          have l1 := mxF_le (v := v) (F := F) (p := i) q
          have l2 : v.cls F i (v.far i q) v.n ≤ v.n := cntB_le
          rw [X12_ask_77, show (3 : Int32) = nI 3 from rfl, a_n M, bd_s, if_neg (nI_ge hq (by omega)), e_isOf, hb_mk (by omega) (by omega), decide_eq_true hq, Bool.true_and, bd_s, hs, nI_1]
          cases hF : F q with
          | false => rw [if_pos (show b2i false = 0 from rfl), if_neg (by decide), hb]
          | true => rw [if_neg (show ¬ b2i true = 0 by decide), if_pos rfl, m_asFar W M hi hq, bd_s, hb, m_greater (by omega) (by omega), bd_s]
      rw [inner, askB_s, ← hP]
      cases ha : a with
      | none =>
        rw [show (none : Option Nat).elim (2000000000 : Int32) (fun x => nI (mxF v F x v.n)) = 2000000000 from rfl]
        rw [if_pos (show nI (mxF v F i v.n) < 2000000000 from nI_lt (b := 2000000000) (by omega) (by decide))]
        rfl
      | some x =>
        have mx := mxF_le (v := v) (F := F) (p := x) v.n
        rw [show (some x).elim (2000000000 : Int32) (fun x => nI (mxF v F x v.n)) = nI (mxF v F x v.n) from rfl]
        by_cases d : mxF v F x v.n ≤ mxF v F i v.n
        · rw [if_neg (nI_nlt d (by omega))]; dsimp only; rw [if_pos d]; rfl
        · rw [if_pos (nI_lt (by omega) (by omega))]; dsimp only; rw [if_neg d]; rfl
  · rw [if_neg c]
    obtain ⟨z, hz⟩ : ∃ z, FU = z + 1 := ⟨FU - 1, by rfl⟩
    rw [hz, X12_ask_52, show (3 : Int32) = nI 3 from rfl, a_n M, bd_s, m_bits (by omega), bd_s, if_pos (show nI (cntB F v.n) ≤ 1 from nI_le (b := 1) (by omega) (by omega))]
    split <;> rfl
theorem r_30 (hC : Core (1000 * j) σ v L) (hR : Rest (1000 * j) σ v.txt) : ∃ σ3, lw_30 x1 x2 x3 x4 x5 σ = some (true, σ3) ∧ Inv (j + 1) σ3 := by
  obtain ⟨W, R, M, K, KT, Kl⟩ := id hC
  have h9 := W.n9
  obtain ⟨T, b, t1, t2, t3, t4⟩ := hR.2.1.byts
  have R1 : SC (st σ 1 1 0) 9 v (1000 * j) := R.move fun c c1 c2 => st_n (by omega)
  have b1 : Byts (st σ 1 1 0) T b := t4.move (st_n (by decide)) (st_n (by decide))
  have hMis : Mis (st σ 1 1 0) := ⟨fun i hi => by rw [st_n (by decide)]; exact hR.2.2.2.2.1 i hi, by rw [st_n (by decide)]; exact hR.2.2.2.2.2⟩
  have mB : ∀ ρ : Mem, SM (ρ 400) v → Byts ρ T b → ρ 399 8 = nI T → X12_ask ρ = X12_ask_24 (nI T) (b2i (!v.wks b T)) (st ρ 399 8 0) := by
    intro ρ M1 hb h8
    unfold X12_ask
    rw [pu_s, bd_s, h8, m_wks W (show SM ((st ρ 399 8 0) 400) v by rw [st_n (by decide)]; exact M1) (hb.move (st_n (by decide)) (st_n (by decide))) t1, bd_s]
    cases v.wks b T with
    | true => rw [if_neg (show ¬ b2i true = 0 by decide)]; rfl
    | false => rw [if_pos (show b2i false = 0 from rfl)]; rfl
  cases hrows : v.wks b T with
  | false =>
    have hA : L_ask σ = some (nI 1, st σ 1 1 0) := by
      unfold L_ask X11_ask X11_placesTold X10_useUp
      rw [pu_s, bd_s, bd2_s, t2, e_wks R1 h9 b1 t1, hrows, bd_s, if_pos (show b2i false = 0 from rfl), bdx2_r, bdx2_r]
      exact hx_1
    have hB : X12_ask (st σ 1 1 0) = some (nI 0, st (st (st σ 1 1 0) 399 8 0) 399 0 (nI 1)) := by
      rw [mB _ (show SM ((st σ 1 1 0) 400) v by rw [st_n (by decide)]; exact M) b1 (by rw [st_n (by decide)]; exact t3), hrows]
      unfold X12_ask_24
      rw [pu_s, bd_s, st_at, if_neg (by decide)]; rfl
    refine roadI (Bf := fun τ => X12_ask τ) hA hB st_at (fun h => absurd h n0) (use_inv hC hR (fun c hc => st_n (by omega)) hMis st_at (st_at' (by decide)) (fun c hc => by rw [st_n (by omega), st_n (by omega)]) (fun i hi => by rw [st_at' (by omega), st_at' (by omega)]) ?_ (by rw [st_at' (by decide), st_at]; rfl) (by rw [st_n (by decide), st_n (by decide)]))
    refine BO.th ?_
    unfold BO
    rw [st_at' (by decide), st_at' (by decide), st_n (by decide)]
    exact hR.1
  | true =>
    obtain ⟨c1, c2, c3⟩ := wks_t hrows
    have hN : T = 2 * (T / 2) := by omega
    generalize T / 2 = N at hN c3
    subst hN
    obtain ⟨τ, s1, s2⟩ := e_places W R1 b1 t1 c3
    obtain ⟨τ2, s3, s4⟩ := e_ask (F := v.wkE b N) W (R1.move (σ' := τ) fun c q1 q2 => s2 c (by omega))
    generalize hans : (if 2 ≤ cntB (v.wkE b N) v.n then askB v (v.wkE b N) v.n else none) = ans at s3
    have hA : L_ask σ = some (nI 0, st τ2 411 0 (oI ans)) := by
      unfold L_ask X11_ask X11_placesTold X10_useUp
      rw [pu_s, bd_s, bd2_s, t2, e_wks R1 h9 b1 t1, hrows, bd_s, if_neg (show ¬ b2i true = 0 by decide), s1, bd2_s, bdx2_l, s3, bd2_s, bdx2_l]
      rfl
    generalize hρ : st τ2 411 0 (oI ans) = ρ at hA
    have f : ∀ c, c ≠ 1 → c ≠ 393 → c ≠ 395 → c ≠ 411 → ρ c = σ c := fun c c1 c2 c3 c4 => by rw [← hρ, st_n c4, s4 c c3, s2 c c2, st_n c1]
    have M1 : SM (ρ 400) v := by rw [f 400 (by decide) (by decide) (by decide) (by decide)]; exact M
    have b2 : Byts ρ (2 * N) b := t4.move (f 3 (by decide) (by decide) (by decide) (by decide)) (f 404 (by decide) (by decide) (by decide) (by decide))
    have M2 : SM ((st (st ρ 399 8 0) 399 0 (nI 0)) 400) v := by rw [st_n (by decide), st_n (by decide)]; exact M1
    have b3 : Byts (st (st ρ 399 8 0) 399 0 (nI 0)) (2 * N) b := b2.move (by rw [st_n (by decide), st_n (by decide)]) (by rw [st_n (by decide), st_n (by decide)])
    have hB : X12_ask ρ = some (oI ans, st (st ρ 399 8 0) 399 0 (nI 0)) := by
      rw [mB ρ M1 b2 (by rw [f 399 (by decide) (by decide) (by decide) (by decide)]; exact t3), hrows]
      unfold X12_ask_24
      rw [pu_s, bd_s, st_at, if_pos (by decide), show st (st ρ 399 8 0) 399 0 (b2i (!true)) = st (st ρ 399 8 0) 399 0 (nI 0) from rfl, m_places W M2 b3 t1 c3, bd_s, m_ask W M2, hans]
    refine roadI (Bf := fun τ => X12_ask τ) hA hB st_at (fun h => ?_) (use_inv hC hR (σ1 := ρ) (fun c hc => f c (by omega) (by omega) (by omega) (by omega)) ?_ ?_ ?_ (fun c hc => by rw [st_n (by omega), st_n (by omega)]) (fun i hi => by rw [st_at' (by omega), st_at' (by omega)]) ?_ (by rw [st_at' (by decide), st_at]; rfl) (by rw [st_n (by decide), st_n (by decide)]))
    · rw [st_n (by decide), st_n (by decide), ← hρ, st_at]
    · exact ⟨fun i hi => by rw [f 391 (by decide) (by decide) (by decide) (by decide)]; exact hR.2.2.2.2.1 i hi, by rw [f 398 (by decide) (by decide) (by decide) (by decide)]; exact hR.2.2.2.2.2⟩
    · rw [← hρ, st_n (by decide), s4 1 (by decide), s2 1 (by decide), st_at]; rfl
    · rw [← hρ, st_n (by decide), s4 1 (by decide), s2 1 (by decide), st_at' (by decide)]
    · refine BO.th ?_
      unfold BO
      rw [st_at' (by decide), st_at' (by decide), f 399 (by decide) (by decide) (by decide) (by decide)]
      exact hR.1
end ASK

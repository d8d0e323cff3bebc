/-! the fewest ways whose closing parts two panes -/
def smI (f : Nat → Int) : Nat → Int
  | 0 => 0
  | n + 1 => smI f n + f n
section SUMI
variable {f g : Nat → Int} {n : Nat}
theorem smI_congr (h : ∀ i, i < n → f i = g i) : smI f n = smI g n := by
  induction n with
  | zero => rfl
  | succ n ih => unfold smI; rw [ih (fun i hi => h i (by omega)), h n (by omega)]
theorem smI_add : smI (fun i => f i + g i) n = smI f n + smI g n := by
  induction n with
  | zero => rfl
  | succ n ih => unfold smI; rw [ih]; omega
theorem smI_0 (h : ∀ i, i < n → f i = 0) : smI f n = 0 := by
  induction n with
  | zero => rfl
  | succ n ih => unfold smI; rw [ih (fun i hi => h i (by omega)), h n (by omega)]; rfl
theorem smI_neg : smI (fun i => - f i) n = - smI f n := by
  induction n with
  | zero => rfl
  | succ n ih => unfold smI; rw [ih]; omega
theorem smI_le (h : ∀ i, i < n → f i ≤ g i) : smI f n ≤ smI g n := by
  induction n with
  | zero => exact Int.le_refl _
  | succ n ih =>
    have := ih (fun i hi => h i (by omega))
    have := h n (by omega)
    unfold smI
    omega
theorem smI_one {a : Nat} (ha : a < n) {c : Int} : smI (fun i => if i = a then c else 0) n = c := by
  induction n with
  | zero => omega
  | succ n ih =>
    unfold smI
    by_cases e : a = n
    · subst e
      rw [smI_0 (fun i hi => if_neg (by omega)), if_pos rfl]; omega
    · rw [ih (by omega), if_neg (fun z => e z.symm)]; omega
theorem smI_swap {G : Nat → Nat → Int} : ∀ {m n : Nat}, smI (fun p => smI (G p) n) m = smI (fun q => smI (fun p => G p q) m) n := by
  intro m n
  induction m with
  | zero => exact (smI_0 (f := fun q => smI (fun p => G p q) 0) (fun _ _ => rfl)).symm
  | succ m ih =>
    show smI (fun p => smI (G p) n) m + smI (G m) n = _
    rw [ih, ← smI_add]
    exact smI_congr fun q _ => rfl
theorem smI_anti {G : Nat → Nat → Int} (h : ∀ p q, p < n → q < n → G p q = - G q p) : smI (fun p => smI (G p) n) n = 0 := by
  have e : smI (fun p => smI (G p) n) n = - smI (fun p => smI (G p) n) n := by
    conv => lhs; rw [smI_swap]
    rw [← smI_neg]
    refine smI_congr fun q hq => ?_
    rw [← smI_neg]
    exact smI_congr fun p hp => h p q hp hq
  omega
end SUMI
def zI (a : Int) : Int32 := Int32.ofInt a
theorem z3 {a : Int} (h1 : -1 ≤ a) (h2 : a ≤ 1) : a = -1 ∨ a = 0 ∨ a = 1 := by omega
theorem zI_le {a : Int} (h1 : -1 ≤ a) (h2 : a ≤ 1) : (zI a ≤ 0) ↔ a ≤ 0 := by
  rcases z3 h1 h2 with h | h | h <;> rw [h] <;> decide
theorem zI_p {a : Int} (h1 : -1 ≤ a) (h2 : a ≤ 1) : zI a + 1 = zI (a + 1) := by
  rcases z3 h1 h2 with h | h | h <;> rw [h] <;> decide
theorem zI_m {a : Int} (h1 : -1 ≤ a) (h2 : a ≤ 1) : zI a - 1 = zI (a - 1) := by
  rcases z3 h1 h2 with h | h | h <;> rw [h] <;> decide
/-- what flows: k from s to t -/
def Flo (v : View) (s t : Nat) (F : Nat → Nat → Int) (k : Nat) : Prop := (∀ a b, a < v.n → b < v.n → F a b = - F b a) ∧ (∀ a b, a < v.n → b < v.n → F a b ≤ 1) ∧ (∀ a b, a < v.n → b < v.n → v.way a b = false → F a b = 0) ∧ (∀ p, p < v.n → p ≠ s → p ≠ t → smI (F p) v.n = 0) ∧ smI (F s) v.n = k
noncomputable def View.cut (v : View) (S : Nat → Bool) : Nat := smN (fun p => if S p = true then cntB (fun q => v.way p q && !S q) v.n else 0) v.n
section CUT
variable {v : View} {s t k n : Nat} {F : Nat → Nat → Int} {S : Nat → Bool}
theorem cnt_I {f : Nat → Bool} : ((cntB f n : Nat) : Int) = smI (fun q => if f q = true then 1 else 0) n := by
  induction n with
  | zero => rfl
  | succ n ih =>
    unfold cntB smI
    rw [← ih]
    by_cases c : f n = true
    · rw [if_pos c, if_pos c]; omega
    · rw [if_neg c, if_neg c]; omega
theorem sm_I {f : Nat → Nat} : ((smN f n : Nat) : Int) = smI (fun q => (f q : Int)) n := by
  induction n with
  | zero => rfl
  | succ n ih =>
    rw [smN_s]
    unfold smI
    rw [← ih]
    omega
/-- over the edge of S flows just k -/
theorem flow_out (h : Flo v s t F k) (hs : s < v.n) (ss : S s = true) (st : S t = false) : smI (fun p => if S p = true then smI (fun q => if S q = true then 0 else F p q) v.n else 0) v.n = k := by
  obtain ⟨h1, h2, h3, h4, h5⟩ := h
  have e1 : smI (fun p => if S p = true then smI (F p) v.n else 0) v.n = k := by
    rw [smI_congr (g := fun p => if p = s then (k : Int) else 0) (fun p hp => ?_)]
    · exact smI_one hs
    · by_cases c : p = s
      · rw [c, if_pos ss, if_pos rfl, h5]
      · rw [if_neg c]
        by_cases c2 : S p = true
        · rw [if_pos c2]
          exact h4 p hp c (fun z => by rw [z, st] at c2; cases c2)
        · rw [if_neg c2]
  have e2 : smI (fun p => smI (fun q => if S p = true ∧ S q = true then F p q else 0) v.n) v.n = 0 := by
    refine smI_anti (G := fun p q => if S p = true ∧ S q = true then F p q else 0) fun p q hp hq => ?_
    by_cases c : S p = true ∧ S q = true
    · rw [if_pos c, if_pos ⟨c.2, c.1⟩]; exact h1 p q hp hq
    · rw [if_neg c, if_neg (fun z => c ⟨z.2, z.1⟩)]; rfl
  have e3 : smI (fun p => (if S p = true then smI (fun q => if S q = true then 0 else F p q) v.n else 0) + smI (fun q => if S p = true ∧ S q = true then F p q else 0) v.n) v.n = smI (fun p => if S p = true then smI (F p) v.n else 0) v.n := by
    refine smI_congr fun p hp => ?_
    by_cases c : S p = true
    · rw [if_pos c, if_pos c, ← smI_add]
      refine smI_congr fun q hq => ?_
      by_cases c2 : S q = true
      · rw [if_pos c2, if_pos ⟨c, c2⟩]; omega
      · rw [if_neg c2, if_neg (fun z => c2 z.2)]; omega
    · rw [if_neg c, if_neg c, smI_0 (fun q _ => if_neg (fun z => c z.1))]; rfl
  rw [smI_add, e2, e1] at e3
  omega
theorem cut_I : ((v.cut S : Nat) : Int) = smI (fun p => if S p = true then smI (fun q => if S q = true then 0 else if v.way p q = true then 1 else 0) v.n else 0) v.n := by
  unfold View.cut
  rw [sm_I]
  refine smI_congr fun p hp => ?_
  by_cases c : S p = true
  · rw [if_pos c, if_pos c, cnt_I]
    refine smI_congr fun q hq => ?_
    cases S q <;> cases v.way p q <;> rfl
  · rw [if_neg c, if_neg c]; rfl
theorem cut_ge (h : Flo v s t F k) (hs : s < v.n) (ss : S s = true) (st : S t = false) : k ≤ v.cut S := by
  have e := flow_out h hs ss st
  obtain ⟨h1, h2, h3, h4, h5⟩ := h
  have : (k : Int) ≤ v.cut S := by
    rw [cut_I, ← e]
    refine smI_le fun p hp => ?_
    by_cases c : S p = true
    · rw [if_pos c, if_pos c]
      refine smI_le fun q hq => ?_
      by_cases c2 : S q = true
      · rw [if_pos c2, if_pos c2]; omega
      · rw [if_neg c2, if_neg c2]
        cases cw : v.way p q with
        | true => rw [if_pos rfl]; exact h2 p q hp hq
        | false => rw [if_neg (by decide), h3 p q hp hq cw]; omega
    · rw [if_neg c, if_neg c]; omega
  omega
theorem cut_eq (h : Flo v s t F k) (hs : s < v.n) (ss : S s = true) (st : S t = false) (hc : ∀ p q, p < v.n → q < v.n → S p = true → S q = false → v.way p q = true → ¬ F p q ≤ 0) : v.cut S = k := by
  have e := flow_out h hs ss st
  obtain ⟨h1, h2, h3, h4, h5⟩ := h
  have : (v.cut S : Int) = k := by
    rw [cut_I, ← e]
    refine smI_congr fun p hp => ?_
    by_cases c : S p = true
    · rw [if_pos c, if_pos c]
      refine smI_congr fun q hq => ?_
      by_cases c2 : S q = true
      · rw [if_pos c2, if_pos c2]
      · rw [if_neg c2, if_neg c2]
        cases cw : v.way p q with
        | true =>
          have a := hc p q hp hq c (by simpa using c2) cw
          have b := h2 p q hp hq
          rw [if_pos rfl]; omega
        | false => rw [if_neg (by decide), h3 p q hp hq cw]
    · rw [if_neg c, if_neg c]
  omega
theorem cut_le (hn : v.n ≤ 9) : v.cut S ≤ 81 := by
  unfold View.cut
  have := smN_le (f := fun p => if S p = true then cntB (fun q => v.way p q && !S q) v.n else 0) (b := 9) (n := v.n) (fun p hp => by
    by_cases c : S p = true
    · rw [if_pos c]
      have := cntB_le (f := fun q => v.way p q && !S q) (n := v.n)
      omega
    · rw [if_neg c]; omega)
  omega
end CUT
/-! the component tries every set -/
section CCUT
variable {σ : Mem} {v : View} {e s t : Nat}
theorem e_out (W : WF v) (R : SC σ 9 v e) {m : Nat} (hm : m < 512) : X5_waysOutOf σ 9 (nI m) = some (nI (v.cut m.testBit)) := by
  have h9 := W.n9
  have pw : ∀ {i}, i ≤ v.n → smN (fun p => if m.testBit p = true then cntB (fun q => v.way p q && !m.testBit q) v.n else 0) i ≤ i * 9 := fun {i} hi => smN_le (fun p hp => by
    by_cases c : m.testBit p = true
    · rw [if_pos c]
      have := cntB_le (f := fun q => v.way p q && !m.testBit q) (n := v.n)
      omega
    · rw [if_neg c]; omega)
  unfold X5_waysOutOf View.cut
  generalize hg : (fun p => if m.testBit p = true then cntB (fun q => v.way p q && !m.testBit q) v.n else 0) = g at pw
  rw [show (0 : Int32) = nI 0 from rfl]
  refine loop_P (L := fun f (a : Int32) i => X5_waysOutOf_5 σ f 9 (nI m) a i) (P := fun i a => a = nI (smN g i)) (Q := fun r => r = some (nI (smN g v.n))) (n := v.n) (a := nI 0) (fun f a hP => ?_) (fun f a i hi hP => Or.inr ⟨nI (smN g (i + 1)), ?_, rfl⟩) (Nat.zero_le _) (FUb (by omega)) rfl
  · rw [X5_waysOutOf_5, R.n, if_pos (nI_le (Nat.le_refl _) (by omega)), hP]
  · have gi : g i = if m.testBit i = true then cntB (fun q => v.way i q && !m.testBit q) v.n else 0 := by rw [← hg]
    rw [X5_waysOutOf_5, R.n, if_neg (nI_ge hi (by omega)), e_hasBit, hb_nI (by omega) (by omega), bd_s, nI_1, smN_s, gi, hP]
    cases c : m.testBit i with
    | false => rw [if_pos (show b2i false = 0 from rfl), if_neg (by decide)]; rfl
    | true =>
      have e1 : mkB (v.way i) v.n &&& (nI m ^^^ (-1 : Int32)) = mkB (fun q => v.way i q && !m.testBit q) v.n := by
        rw [show (-1 : Int32) = oI none from rfl, xorN, mk_and_not (by omega)]
        exact mk_congr fun q hq => by rw [hb_nI (by omega) (by omega)]
      rw [if_neg (show ¬ b2i true = 0 by decide), show X6_get σ (9 + 7) (nI i) = _ from g_way kd9' W R hi, bd_s, e1, e_bitCount (by omega), bd_s, nI_add, if_pos rfl]
theorem e_closed (W : WF v) (R : SC σ 9 v e) (hs : s < v.n) (ht : t < v.n) (hst : s ≠ t) : X5_fewestClosed σ 9 (nI s) (nI t) = some (nI (mA (fun m => v.cut m.testBit) (fun m => m.testBit s && !m.testBit t) 1000 (2 ^ v.n))) := by
  have h9 := W.n9
  have p9 := pow9_ v.n h9
  have pb : bitv v.n = nI (2 ^ v.n) := bit_pow_ v.n (by omega)
  unfold X5_fewestClosed
  rw [if_neg (fun z => hst (nI_inj (by omega) (by omega) z)), show (0 : Int32) = nI 0 from rfl]
  refine loop_P (L := fun f (a : Int32) i => X5_fewestClosed_15 σ f 9 (nI s) (nI t) a i) (P := fun i a => a = nI (mA (fun m => v.cut m.testBit) (fun m => m.testBit s && !m.testBit t) 1000 i)) (Q := fun r => r = some (nI (mA (fun m => v.cut m.testBit) (fun m => m.testBit s && !m.testBit t) 1000 (2 ^ v.n)))) (n := 2 ^ v.n) (a := 1000) (fun f a hP => ?_) (fun f a i hi hP => Or.inr ⟨nI (mA (fun m => v.cut m.testBit) (fun m => m.testBit s && !m.testBit t) 1000 (i + 1)), ?_, rfl⟩) (Nat.zero_le _) (FUb (by omega)) rfl
  · rw [X5_fewestClosed_15, R.n, e_bit, bd_s, pb, if_pos (nI_le (Nat.le_refl _) (by omega)), hP]
  · have hle := mA_a (h := fun m => v.cut m.testBit) (S := fun m => m.testBit s && !m.testBit t) (a := 1000) (m := i)
    have hc := cut_le (v := v) (S := i.testBit) h9
    rw [X5_fewestClosed_15, R.n, e_bit, bd_s, pb, if_neg (nI_ge hi (by omega)), e_hasBit, hb_nI (by omega) (by omega), bd_s, nI_1, mA_s, hP]
    cases c1 : i.testBit s with
    | false => rw [if_pos (show b2i false = 0 from rfl), Bool.false_and, if_neg (by decide)]
    | true =>
      rw [if_neg (show ¬ b2i true = 0 by decide), e_hasBit, hb_nI (by omega) (by omega), bd_s]
      cases c2 : i.testBit t with
      | true => rw [if_neg (show ¬ b2i true = 0 by decide), if_neg (by decide)]
      | false =>
        rw [if_pos (show b2i false = 0 from rfl), e_out W R (by omega), bd_s, if_pos (show (true && !false) = true from rfl)]
        congr 1
        by_cases c : v.cut i.testBit < mA (fun m => v.cut m.testBit) (fun m => m.testBit s && !m.testBit t) 1000 i
        · rw [if_pos ((nI_ltI (by omega) (by omega)).mpr c), Nat.min_eq_right (by omega)]
        · rw [if_neg (fun z => c ((nI_ltI (by omega) (by omega)).mp z)), Nat.min_eq_left (by omega)]
end CCUT

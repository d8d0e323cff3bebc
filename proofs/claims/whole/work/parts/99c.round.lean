/-! a round by all told panes in the fewest steps -/
def INF : Nat := 2000000000
def mA (h : Nat → Nat) (S : Nat → Bool) (a : Nat) : Nat → Nat := iterN (fun a q => if S q = true then min a (h q) else a) a
def pw (d : Option Nat) (r : Nat) : Nat := match d with
  | none => INF
  | some d => if r = INF then INF else d + r
noncomputable def View.tq (v : View) : Nat → Nat → Nat → Nat := iterN (fun t i S p => if S = i + 1 then mA (fun q => pw (v.far p q) (t (rm S q) q)) S.testBit INF 9 else t S p) (fun _ _ => 0)
noncomputable def View.F (v : View) (S p : Nat) : Nat := v.tq S S p
def setN (f : Nat → Bool) : Nat → Nat := iterN (fun a i => if f i = true then a + 2 ^ i else a) 0
def inB (b : Nat → Nat) (T p : Nat) : Bool := anyR (fun t => decide (b t = p)) 0 T
def okB (n : Nat) (b : Nat → Nat) (i : Nat) : Bool := decide (b i < n) && !inB b i (b i)
def okA (n : Nat) (b : Nat → Nat) (i : Nat) : Bool := !anyR (fun i => !okB n b i) 0 i
def toldB (n : Nat) (b : Nat → Nat) (T : Nat) : Bool := decide (T ≤ 8) && okA n b T
def Rm (n : Nat) (b : Nat → Nat) (T V : Nat) : Nat := setN (fun p => anyR (fun t => !V.testBit t && decide (b t = p)) 0 T) n
noncomputable def View.hq (v : View) (S p q : Nat) : Nat := pw (v.far p q) (v.F (rm S q) q)
noncomputable def View.rnd (v : View) (D p : Nat) (y : Int32) : Int32 := if v.F D p = INF then -1 else if y = 0 then nI (v.F D p) else oI (fs (fun q => D.testBit q && decide (v.hq D p q = v.F D p)) 0 9)
section MIN
variable {h g : Nat → Nat} {S : Nat → Bool} {a c m q : Nat}
theorem mA_s : mA h S a (m + 1) = if S m = true then min (mA h S a m) (h m) else mA h S a m := rfl
theorem mA_a : mA h S a m ≤ a := by
  induction m with
  | zero => exact Nat.le_refl _
  | succ m ih => rw [mA_s]; split <;> omega
theorem mA_le (hq : q < m) (hS : S q = true) : mA h S a m ≤ h q := by
  induction m with
  | zero => omega
  | succ m ih =>
    rw [mA_s]
    by_cases e : q = m
    · subst e; rw [if_pos hS]; omega
    · have := ih (by omega)
      split <;> omega
theorem mA_ex : mA h S a m = a ∨ ∃ q, q < m ∧ S q = true ∧ mA h S a m = h q := by
  induction m with
  | zero => exact Or.inl rfl
  | succ m ih =>
    rw [mA_s]
    split
    · rename_i hS
      by_cases e : mA h S a m ≤ h m
      · rw [Nat.min_eq_left e]
        rcases ih with z | ⟨q, q1, q2, q3⟩
        · exact Or.inl z
        · exact Or.inr ⟨q, by omega, q2, q3⟩
      · exact Or.inr ⟨m, by omega, hS, Nat.min_eq_right (by omega)⟩
    · rcases ih with z | ⟨q, q1, q2, q3⟩
      · exact Or.inl z
      · exact Or.inr ⟨q, by omega, q2, q3⟩
theorem mA_uniq {S2 : Nat → Bool} {m2 : Nat} (h1 : ∀ q, q < m → S q = true → ∃ r, r < m2 ∧ S2 r = true ∧ g r = h q) (h2 : ∀ r, r < m2 → S2 r = true → ∃ q, q < m ∧ S q = true ∧ h q = g r) : mA h S a m = mA g S2 a m2 := by
  apply Nat.le_antisymm
  · rcases mA_ex (h := g) (S := S2) (a := a) (m := m2) with z | ⟨r, r1, r2, r3⟩
    · rw [z]; exact mA_a
    · obtain ⟨q, q1, q2, q3⟩ := h2 r r1 r2
      rw [r3, ← q3]; exact mA_le q1 q2
  · rcases mA_ex (h := h) (S := S) (a := a) (m := m) with z | ⟨r, r1, r2, r3⟩
    · rw [z]; exact mA_a
    · obtain ⟨q, q1, q2, q3⟩ := h1 r r1 r2
      rw [r3, ← q3]; exact mA_le q1 q2
theorem mA_top (hq : q < m) (hS : S q = true) (hc : h q ≤ a) (hac : a ≤ c) : mA h S c m = mA h S a m := by
  apply Nat.le_antisymm
  · rcases mA_ex (h := h) (S := S) (a := a) (m := m) with z | ⟨r, r1, r2, r3⟩
    · have := mA_le (h := h) (a := c) hq hS; omega
    · rw [r3]; exact mA_le r1 r2
  · rcases mA_ex (h := h) (S := S) (a := c) (m := m) with z | ⟨r, r1, r2, r3⟩
    · rw [z]; have := mA_a (h := h) (S := S) (a := a) (m := m); omega
    · rw [r3]; exact mA_le r1 r2
end MIN
theorem setN_s {f : Nat → Bool} {n : Nat} : setN f (n + 1) = if f n = true then setN f n + 2 ^ n else setN f n := rfl
theorem setN_lt {f : Nat → Bool} {n : Nat} : setN f n < 2 ^ n := by
  induction n with
  | zero => exact Nat.one_pos
  | succ n ih =>
    have e : 2 ^ (n + 1) = 2 * 2 ^ n := by rw [Nat.pow_succ, Nat.mul_comm]
    rw [setN_s, e]
    split <;> omega
theorem setN_bit {f : Nat → Bool} : ∀ {n i : Nat}, (setN f n).testBit i = (decide (i < n) && f i) := by
  intro n
  induction n with
  | zero => intro i; exact Nat.zero_testBit i
  | succ n ih =>
    intro i
    have hl := setN_lt (f := f) (n := n)
    rw [setN_s]
    rcases Nat.lt_trichotomy i n with c | c | c
    · rw [decide_eq_true (show i < n + 1 by omega), Bool.true_and]
      have : (setN f n).testBit i = f i := by rw [ih, decide_eq_true c, Bool.true_and]
      split
      · rw [Nat.add_comm, Nat.testBit_two_pow_add_gt c, this]
      · exact this
    · subst c
      rw [decide_eq_true (show i < i + 1 by omega), Bool.true_and]
      split
      · rename_i hf
        rw [Nat.add_comm, Nat.testBit_two_pow_add_eq, Nat.testBit_lt_two_pow hl, hf]; rfl
      · rename_i hf
        rw [Nat.testBit_lt_two_pow hl]
        cases hh : f i with
        | false => rfl
        | true => exact absurd hh hf
    · rw [decide_eq_false (show ¬ i < n + 1 by omega), Bool.false_and]
      apply Nat.testBit_lt_two_pow
      have e : 2 ^ (n + 1) = 2 * 2 ^ n := by rw [Nat.pow_succ, Nat.mul_comm]
      have := Nat.pow_le_pow_right (n := 2) (by decide) (show n + 1 ≤ i by omega)
      split <;> omega
theorem setN_nI {f : Nat → Bool} {n : Nat} (hn : n ≤ 30) : nI (setN f n) = mkB f n := by
  rw [nI_mk hn setN_lt]
  exact mk_congr fun i hi => by rw [setN_bit, decide_eq_true hi, Bool.true_and]
/-! the fewest steps -/
section FEW
variable {v : View} {S p : Nat}
theorem tq_s {i : Nat} : v.tq (i + 1) S p = if S = i + 1 then mA (fun q => pw (v.far p q) (v.tq i (rm S q) q)) S.testBit INF 9 else v.tq i S p := rfl
theorem tq_F {i : Nat} (h : S ≤ i) : v.tq i S p = v.F S p := by
  induction i with
  | zero => rw [show S = 0 by omega]; rfl
  | succ i ih =>
    by_cases e : S = i + 1
    · subst e; rfl
    · rw [tq_s, if_neg e, ih (by omega)]
theorem F_0 : v.F 0 p = 0 := rfl
theorem F_s (h : 0 < S) : v.F S p = mA (v.hq S p) S.testBit INF 9 := by
  obtain ⟨i, rfl⟩ : ∃ i, S = i + 1 := ⟨S - 1, by omega⟩
  show v.tq (i + 1) (i + 1) p = _
  rw [tq_s, if_pos rfl]
  apply mA_uniq
  · intro q q1 q2
    refine ⟨q, q1, q2, ?_⟩
    have := rm_lt (S := i + 1) (l := q) (by omega)
    show pw (v.far p q) (v.F (rm (i + 1) q) q) = _
    rw [tq_F (by omega)]
  · intro q q1 q2
    refine ⟨q, q1, q2, ?_⟩
    have := rm_lt (S := i + 1) (l := q) (by omega)
    show _ = pw (v.far p q) (v.F (rm (i + 1) q) q)
    rw [tq_F (by omega)]
theorem F_le : v.F S p ≤ INF := by
  by_cases h : 0 < S
  · rw [F_s h]; exact mA_a
  · rw [show S = 0 by omega, F_0]; exact Nat.zero_le _
theorem F_fin : ∀ S p, v.F S p = INF ∨ v.F S p ≤ 9 * S := by
  intro S
  induction S using Nat.strongRecOn with
  | ind S ih =>
    intro p
    by_cases h : 0 < S
    · rw [F_s h]
      rcases mA_ex (h := v.hq S p) (S := S.testBit) (a := INF) (m := 9) with z | ⟨q, q1, q2, q3⟩
      · exact Or.inl z
      · rw [q3]
        have hr := rm_lt (l := q) h
        unfold View.hq pw
        cases hf : v.far p q with
        | none => exact Or.inl rfl
        | some d =>
          have := far_lt hf
          dsimp only
          rcases ih (rm S q) hr q with z | z
          · rw [if_pos z]; exact Or.inl rfl
          · by_cases e : v.F (rm S q) q = INF
            · rw [if_pos e]; exact Or.inl rfl
            · rw [if_neg e]; exact Or.inr (by omega)
    · rw [show S = 0 by omega, F_0]; exact Or.inr (by omega)
theorem hq_le : ∀ q, v.hq S p q ≤ INF ∨ v.hq S p q ≤ 9 * S + 8 := by
  intro q
  unfold View.hq pw
  cases hf : v.far p q with
  | none => exact Or.inl (Nat.le_refl _)
  | some d =>
    have := far_lt hf
    dsimp only
    have hr := rm_le S q
    rcases F_fin (v := v) (rm S q) q with z | z
    · rw [if_pos z]; exact Or.inl (Nat.le_refl _)
    · by_cases e : v.F (rm S q) q = INF
      · rw [if_pos e]; exact Or.inl (Nat.le_refl _)
      · rw [if_neg e]; exact Or.inr (by omega)
theorem hq_INF (hS : S < 512) (q : Nat) : v.hq S p q ≤ INF := by
  rcases hq_le (v := v) (S := S) (p := p) q with z | z
  · exact z
  · have : INF = 2000000000 := rfl
    omega
theorem hq_lt {q d : Nat} (hf : v.far p q = some d) (h : v.F (rm S q) q ≠ INF) : v.hq S p q = d + v.F (rm S q) q := by
  unfold View.hq pw
  rw [hf]
  exact if_neg h
theorem rm_b {q i : Nat} (hS : S < 512) (hq : q < 9) (hi : i < 9) (h : S.testBit q = true) : (rm S q).testBit i = (S.testBit i && decide (i ≠ q)) := rm_bit_ S hS q hq h i hi
/-- all of S lie together with P -/
noncomputable def View.Kc (v : View) (P S : Nat) : Prop := ∀ q, q < 9 → S.testBit q = true → q < v.n ∧ v.ball P 9 q = true
theorem Kc_rm {P q : Nat} (hS : S < 512) (hq : q < 9) (hb : S.testBit q = true) (h : v.Kc P S) : v.Kc P (rm S q) := fun i hi h2 => by
  rw [rm_b hS hq hi hb, Bool.and_eq_true] at h2
  exact h i hi h2.1
theorem far_in (W : WF v) {P p q : Nat} (hP : P < v.n) (hp : p < v.n) (hq : q < v.n) (kp : v.ball P 9 p = true) : (v.far p q ≠ none) ↔ v.ball P 9 q = true := by
  rw [same_comp W hP hp kp q hq, ← far_ball W hp hq, decide_eq_true_eq]
theorem F_A (W : WF v) {P : Nat} (hP : P < v.n) : ∀ S, S < 512 → v.Kc P S → ∀ p, p < v.n → v.ball P 9 p = true → v.F S p ≠ INF := by
  intro S
  induction S using Nat.strongRecOn with
  | ind S ih =>
    intro hS hK p hp kp
    by_cases h : 0 < S
    · obtain ⟨q, q1, q2⟩ := bit_ex (n := 9) hS h
      obtain ⟨k1, k2⟩ := hK q q1 q2
      have hr := rm_lt (l := q) h
      have := ih (rm S q) hr (by omega) (Kc_rm hS q1 q2 hK) q k1 k2
      have hle := mA_le (h := v.hq S p) (S := S.testBit) (a := INF) (m := 9) q1 q2
      rw [F_s h]
      cases hf : v.far p q with
      | none => exact absurd hf ((far_in W hP hp k1 kp).mpr k2)
      | some d =>
        have hd := far_lt hf
        rw [hq_lt hf this] at hle
        have h5 : INF = 2000000000 := rfl
        rcases F_fin (v := v) (rm S q) q with z | z
        · exact absurd z this
        · omega
    · rw [show S = 0 by omega, F_0]; decide
theorem F_B (W : WF v) {P : Nat} (hP : P < v.n) : ∀ S, S < 512 → (∀ q, q < 9 → S.testBit q = true → q < v.n) → (∃ t, t < 9 ∧ S.testBit t = true ∧ v.ball P 9 t = false) → ∀ p, p < v.n → v.ball P 9 p = true → v.F S p = INF := by
  intro S
  induction S using Nat.strongRecOn with
  | ind S ih =>
    intro hS hn ⟨t, t1, t2, t3⟩ p hp kp
    have h : 0 < S := by
      rcases Nat.eq_zero_or_pos S with z | z
      · subst z; rw [Nat.zero_testBit] at t2; cases t2
      · exact z
    rw [F_s h]
    rcases mA_ex (h := v.hq S p) (S := S.testBit) (a := INF) (m := 9) with z | ⟨q, q1, q2, q3⟩
    · exact z
    · rw [q3]
      have hr := rm_lt (l := q) h
      have hqn := hn q q1 q2
      unfold View.hq pw
      cases hf : v.far p q with
      | none => rfl
      | some d =>
        have kq := (far_in W hP hp hqn kp).mp (by rw [hf]; simp)
        refine if_pos (ih (rm S q) hr (by omega) (fun i hi h2 => ?_) ⟨t, t1, ?_, t3⟩ q hqn kq)
        · rw [rm_b hS q1 hi q2, Bool.and_eq_true] at h2
          exact hn i hi h2.1
        · rw [rm_b hS q1 t1 q2, t2, decide_eq_true (show t ≠ q from fun e => by rw [e, kq] at t3; cases t3)]; rfl
end FEW
/-! what is told -/
section TOLD
variable {σ σ1 σ2 : Mem} {v : View} {L : Lw} {j e T n : Nat} {b : Nat → Nat}
theorem okA_s {i : Nat} : okA n b (i + 1) = (okA n b i && okB n b i) := by
  unfold okA
  rw [anyR_app, Nat.zero_add, Bool.not_or, Bool.not_not]
theorem okA_le {i m : Nat} (h : okA n b i = false) (hm : i ≤ m) : okA n b m = false := by
  obtain ⟨d, rfl⟩ := Nat.le.dest hm
  clear hm
  induction d with
  | zero => exact h
  | succ d ih => rw [← Nat.add_assoc, okA_s, ih]; rfl
theorem okA_t {i : Nat} (h : okA n b T = true) (hi : i < T) : okB n b i = true := by
  unfold okA at h
  rw [Bool.not_eq_true'] at h
  have := anyR_no.mp h i (Nat.zero_le _) (by omega)
  simpa using this
theorem inB_s {i p : Nat} : inB b (i + 1) p = (inB b i p || decide (b i = p)) := by
  unfold inB
  rw [anyR_app, Nat.zero_add]
theorem inj (h : okA n b T = true) {i k : Nat} (hi : i < T) (hk : k < T) (e : b i = b k) : i = k := by
  have key : ∀ i k, i < k → k < T → b i = b k → False := by
    intro i k h1 h2 e
    have := okA_t h h2
    unfold okB at this
    rw [Bool.and_eq_true] at this
    have h3 : inB b k (b k) = true := anyR_iff.mpr ⟨i, Nat.zero_le _, by omega, by rw [e]; simp⟩
    rw [h3] at this
    exact absurd this.2 (by decide)
  rcases Nat.lt_trichotomy i k with c | c | c
  · exact (key i k c hk e).elim
  · exact c
  · exact (key k i c hi e.symm).elim
theorem okA_n (h : okA n b T = true) {i : Nat} (hi : i < T) : b i < n := by
  have := okA_t h hi
  unfold okB at this
  rw [Bool.and_eq_true, decide_eq_true_eq] at this
  exact this.1
theorem inB_bit {i : Nat} (hn : n ≤ 9) (hb : b i < n) : mkB (inB b i) n ||| bitv (b i) = mkB (inB b (i + 1)) n := by
  rw [mk_bit (n := n) (by omega) hb, mk_or (by omega)]
  refine mk_congr fun p _ => ?_
  rw [inB_s]
  congr 1
  exact decide_eq_decide.mpr ⟨fun h => h.symm, fun h => h.symm⟩
theorem e_told (W : WF v) (R : SC σ 9 v e) (hb : Byts σ T b) (hT : T ≤ 400) : X5_toldPanes σ 9 (nI T) = some (if toldB v.n b T = true then mkB (inB b T) v.n else -1) := by
  have h9 := W.n9
  unfold X5_toldPanes toldB
  by_cases c1 : T ≤ 8
  · rw [if_pos (show nI T ≤ 8 from nI_le (b := 8) c1 (by omega)), decide_eq_true c1, Bool.true_and, show (0 : Int32) = nI 0 from rfl]
    refine loop_P (L := fun f (a : Int32) i => X5_toldPanes_14 σ f 9 (nI T) a i) (P := fun i a => okA v.n b i = true ∧ a = mkB (inB b i) v.n) (Q := fun r => r = some (if okA v.n b T = true then mkB (inB b T) v.n else -1)) (n := T) (a := nI 0) (fun f a hP => ?_) (fun f a i hi hP => ?_) (Nat.zero_le _) (FUb (by omega)) ⟨rfl, ?_⟩
    · rw [X5_toldPanes_14, if_pos (nI_le (Nat.le_refl _) (by omega)), if_pos hP.1, hP.2]
    · have hl := (hb i hi).2.2
      rw [X5_toldPanes_14, if_neg (nI_ge hi (by omega)), e_byte hb hT hi, bd_s, R.n]
      by_cases c2 : b i < v.n
      · rw [if_neg (nI_ge c2 (by omega)), hP.2, e_hasBit, hb_mk (by omega) (by omega), decide_eq_true c2, Bool.true_and, bd_s]
        cases c3 : inB b i (b i) with
        | false =>
          right
          rw [if_pos (show b2i false = 0 from rfl), e_bit, bd_s, inB_bit h9 c2, nI_1]
          refine ⟨_, rfl, ?_, rfl⟩
          rw [okA_s, hP.1]; unfold okB; rw [c3, decide_eq_true c2]; rfl
        | true =>
          left
          rw [if_neg (show ¬ b2i true = 0 by decide), if_neg]
          rw [okA_le (i := i + 1) (by rw [okA_s]; unfold okB; rw [c3, Bool.not_true, Bool.and_false, Bool.and_false]) hi]
          decide
      · left
        rw [if_pos (nI_le (by omega) (by omega)), if_neg]
        rw [okA_le (i := i + 1) (by rw [okA_s]; unfold okB; rw [decide_eq_false c2, Bool.false_and, Bool.and_false]) hi]
        decide
    · exact mk_0 (by omega)
  · rw [if_neg (show ¬ nI T ≤ 8 from nI_ge (a := 8) (by omega) (by omega)), decide_eq_false c1]; rfl
theorem m_told (W : WF v) (M : SM (σ 400) v) (hb : Byts σ T b) (hT : T ≤ 400) : X12_arePanesTold σ (nI T) = some (b2i (toldB v.n b T)) := by
  have h9 := W.n9
  unfold X12_arePanesTold X12_arePanesTold_11 toldB
  obtain ⟨z, hz⟩ : ∃ z, FU = z + 1 := ⟨FU - 1, by rfl⟩
  by_cases c1 : T ≤ 8
  · rw [if_neg (show ¬ (8 : Int32) < nI T from nI_nlt (a := 8) c1 (by omega)), decide_eq_true c1, Bool.true_and, show (0 : Int32) = nI 0 from rfl]
    refine loop_P (L := fun f (a : Bool × Int32) i => X12_arePanesTold_17 σ f (nI T) (b2i a.1) a.2 i) (P := fun i a => a.1 = okA v.n b i ∧ (a.1 = true → a.2 = mkB (inB b i) v.n)) (Q := fun r => r = some (b2i (okA v.n b T))) (n := T) (a := (true, nI 0)) (fun f a hP => ?_) (fun f a i hi hP => ?_) (Nat.zero_le _) (FUb (by omega)) ⟨rfl, fun _ => mk_0 (by omega)⟩
    · rw [X12_arePanesTold_17, if_pos (nI_le (Nat.le_refl _) (by omega)), gb_b, bd_s, hP.1]
    · obtain ⟨x2, x3⟩ := a
      obtain ⟨p1, p2⟩ := hP
      dsimp only at p1 p2 ⊢
      have hl := (hb i hi).2.2
      rw [X12_arePanesTold_17, if_neg (nI_ge hi (by omega))]
      cases x2 with
      | false =>
        left
        rw [if_pos (show b2i false = 0 from rfl), okA_le p1.symm (by omega)]; rfl
      | true =>
        right
        have p2 := p2 rfl
        have no : okB v.n b i = false → ∃ a' : Bool × Int32, X12_arePanesTold_61 σ (X12_arePanesTold_17 σ f) (nI T) x3 (nI i) = X12_arePanesTold_17 σ f (nI T) (b2i a'.1) a'.2 (nI (i + 1)) ∧ a'.1 = okA v.n b (i + 1) ∧ (a'.1 = true → a'.2 = mkB (inB b (i + 1)) v.n) := by
          intro h
          refine ⟨(false, x3), ?_, by rw [okA_s, h, Bool.and_false], fun h => by cases h⟩
          unfold X12_arePanesTold_61 X12_arePanesTold_62 X12_arePanesTold_81
          rw [if_pos rfl, nI_1, show (0 : Int32) = nI 0 from rfl, or_0]; rfl
        rw [if_neg (show ¬ b2i true = 0 by decide), m_byte hb hT hi, bd_s, show (3 : Int32) = nI 3 from rfl, a_n M, bd_s]
        by_cases c2 : b i < v.n
        · rw [if_neg (nI_ge c2 (by omega)), bd_s, p2, e_isOf, hb_mk (by omega) (by omega), decide_eq_true c2, Bool.true_and, bd_s]
          cases c3 : inB b i (b i) with
          | false =>
            rw [if_pos (show b2i false = 0 from rfl)]
            refine ⟨(true, mkB (inB b (i + 1)) v.n), ?_, ?_, fun _ => rfl⟩
            · unfold X12_arePanesTold_62 X12_arePanesTold_81
              rw [if_neg (by decide), m_byte hb hT hi, bd_s, nI_1, show (1 : Int32) <<< (nI (b i) &&& 31) = bitv (b i) from rfl, inB_bit h9 c2]; rfl
            · rw [okA_s, ← p1]; unfold okB; rw [c3, decide_eq_true c2]; rfl
          | true =>
            rw [if_neg (show ¬ b2i true = 0 by decide), ← p2]
            exact no (by unfold okB; rw [c3, Bool.not_true, Bool.and_false])
        · rw [if_pos (nI_le (by omega) (by omega))]
          exact no (by unfold okB; rw [decide_eq_false c2, Bool.false_and])
  · rw [if_pos (show (8 : Int32) < nI T from nI_lt (a := 8) (by omega) (by omega)), decide_eq_false c1, hz, X12_arePanesTold_17, if_neg (show ¬ nI T ≤ 0 from nI_ge (a := 0) (by omega) (by omega)), if_pos rfl]; rfl
end TOLD

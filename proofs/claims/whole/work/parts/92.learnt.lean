/-! what is told by the text: rows of likings -/
section LEARNT
variable {σ σ1 σ2 : Mem} {v u : View} {L : Lw} {j e T N : Nat} {x1 x2 x3 x4 x5 : Int32} {b : Nat → Nat}
theorem use_inv (hC : Core (1000 * j) σ v L) (hR : Rest (1000 * j) σ v.txt) (a1 : ∀ c, c = 0 ∨ (2 ≤ c ∧ c < 30) ∨ (51 ≤ c ∧ c < 82) ∨ (98 ≤ c ∧ c < 366) ∨ (399 ≤ c ∧ c < 411) → σ1 c = σ c) (a2 : Mis σ1) (a3 : σ1 1 1 = nI 0) (a4 : σ1 1 6 = σ 1 6) (b1 : ∀ c, c < 399 ∨ c = 401 ∨ c = 403 ∨ c = 404 → σ2 c = σ1 c) (b2 : ∀ i, i = 3 ∨ i = 6 ∨ i = 12 → σ2 399 i = σ1 399 i) (b3 : BO σ2) (b4 : σ2 399 8 = nI 0) (b5 : σ2 400 = σ1 400) : Inv (j + 1) σ2 := by
  obtain ⟨h1, h2, h3, h4, h5⟩ := hR
  obtain ⟨c1, c2, c3, c4, c5, c6⟩ := hC
  have f : ∀ c, c = 0 ∨ (2 ≤ c ∧ c < 30) ∨ (51 ≤ c ∧ c < 82) ∨ (98 ≤ c ∧ c < 366) ∨ c = 401 ∨ c = 403 ∨ c = 404 → σ2 c = σ c := fun c hc => by rw [b1 c (by omega), a1 c (by omega)]
  have f9 : ∀ i, i = 3 ∨ i = 6 ∨ i = 12 → σ2 399 i = σ 399 i := fun i hi => by rw [b2 i hi, a1 399 (by omega)]
  refine ⟨v, L, ⟨c1, (c2.move fun c q1 q2 => f c (by omega)).mono (by omega), by rw [b5, a1 400 (by omega)]; exact c3, c4.move fun c q1 q2 => f c (by omega), c5, by rw [f 72 (by omega)]; exact c6⟩, b3, ⟨⟨0, by omega, by rw [b1 1 (by omega)]; exact a3, b4, fun k hk => absurd hk (by omega)⟩, by rw [b1 1 (by omega), a4, f9 12 (by omega)]; exact h2.2⟩, (h3.move (fun c q1 q2 => f c (by omega)) (f9 6 (by omega)) (f 403 (by omega))).mono (by omega), (h4.move (f 0 (by omega)) (fun c hc => f c (by omega)) (f9 3 (by omega)) (f 401 (by omega))).mono (by omega), ?_⟩
  unfold Mis
  rw [b1 391 (by omega), b1 398 (by omega)]
  exact a2
/-- the text, byte by byte, both sides -/
def Byts (σ : Mem) (T : Nat) (b : Nat → Nat) : Prop := ∀ i, i < T → σ 3 i = nI (b i) ∧ σ 404 i = nI (b i) ∧ b i < 256
theorem Tape.byts (h : Tape σ) : ∃ T b, T ≤ 400 ∧ σ 1 1 = nI T ∧ σ 399 8 = nI T ∧ Byts σ T b := by
  obtain ⟨⟨T, t1, t2, t3, t4⟩, -⟩ := h
  refine ⟨T, fun i => (σ 3 i).toNatClampNeg, t1, t2, t3, fun i hi => ?_⟩
  obtain ⟨q1, y, q2, q3⟩ := t4 i hi
  dsimp only
  rw [← q1, q3, nI_clamp (by omega)]
  exact ⟨rfl, rfl, q2⟩
theorem Byts.move (h : Byts σ T b) (h3 : σ2 3 = σ 3) (h4 : σ2 404 = σ 404) : Byts σ2 T b := fun i hi => by rw [h3, h4]; exact h i hi
theorem e_byte (h : Byts σ T b) (hT : T ≤ 400) {i : Nat} (hi : i < T) : X10_byteAt σ (nI i) = some (nI (b i)) := by
  have l3 : ln (2 + 1) = 400 := by decide +kernel
  unfold X10_byteAt
  rw [e_get (by rw [l3]; omega) (by rw [l3]; decide), bd_s, show σ (2 + 1) i = nI (b i) from (h i hi).1]
theorem m_byte (h : Byts σ T b) (hT : T ≤ 400) {i : Nat} (hi : i < T) : ag σ 404 (nI i) = some (nI (b i)) := by
  have l4 : ln 404 = 400 := by decide +kernel
  rw [ag_nI (by rw [l4]; omega) (by omega), (h i hi).2.1]
noncomputable def View.row3 (v : View) (b : Nat → Nat) (i : Nat) : Bool := decide (b (3 * i) < v.k) && decide (b (3 * i + 1) < v.n) && decide (b (3 * i + 2) ≤ 1) && decide (v.own (b (3 * i + 1)) ≠ none) && decide (v.own (b (3 * i + 1)) ≠ some (b (3 * i)))
noncomputable def View.rows3 (v : View) (b : Nat → Nat) (T : Nat) : Bool := decide (T ≤ 39) && decide (T % 3 = 0) && !anyR (fun i => !v.row3 b i) 0 (T / 3)
theorem mod3 {a : Nat} (ha : a < 1000) : nI a - nI a / 3 * 3 = nI (a % 3) := by
  rw [show (3 : Int32) = nI 3 from rfl, pk_div (by omega) (by omega) (by omega), nI_mul, nI_subN (by omega)]
  congr 1
  omega
theorem i3 {i k : Nat} : (nI 3 * nI i) + nI k = nI (3 * i + k) := by rw [nI_mul, nI_add]
theorem e_rows3 (W : WF v) (R : SC σ 9 v e) (hb : Byts σ T b) (hT : T ≤ 400) : X1_areRows σ 9 (nI T) = some (b2i (v.rows3 b T)) := by
  have h9 := W.n9
  have h6 := W.k6
  unfold X1_areRows View.rows3
  rw [show (0 : Int32) = nI 0 from rfl, mod3 (by omega)]
  by_cases c1 : T ≤ 39
  · rw [if_neg (show ¬ (39 : Int32) < nI T from nI_nlt (a := 39) c1 (by omega)), decide_eq_true c1, Bool.true_and]
    by_cases c2 : T % 3 = 0
    · rw [if_pos (by rw [c2]), decide_eq_true c2, Bool.true_and]
      have hN : T = 3 * (T / 3) := by omega
      generalize T / 3 = N at hN ⊢
      refine loop_P (L := fun f (_ : Unit) i => X1_areRows_17 σ f 9 (nI T) (nI 3 * i)) (P := fun i _ => anyR (fun i => !v.row3 b i) 0 i = false) (Q := fun r => r = some (b2i (!anyR (fun i => !v.row3 b i) 0 N))) (n := N) (a := ()) (fun f a hP => ?_) (fun f a i hi hP => ?_) (Nat.zero_le _) (FUb (by omega)) rfl
      · rw [X1_areRows_17, nI_mul, if_pos (nI_le (by omega) (by omega)), hP]; rfl
      · have bad : v.row3 b i = false → some (0 : Int32) = some (b2i (!anyR (fun i => !v.row3 b i) 0 N)) := by
          intro h
          rw [anyR_iff.mpr ⟨i, Nat.zero_le _, by omega, by simp [h]⟩]; rfl
        have l0 := (hb (3 * i) (by omega)).2.2
        have l1 := (hb (3 * i + 1) (by omega)).2.2
        have l2 := (hb (3 * i + 2) (by omega)).2.2
        rw [X1_areRows_17, nI_mul, if_neg (nI_ge (by omega) (by omega)), e_byte hb hT (by omega), bd_s, nI_1, e_byte hb hT (by omega), bd_s, R.k, R.n]
        by_cases d1 : b (3 * i) < v.k
        · rw [if_neg (nI_ge d1 (by omega))]
          by_cases d2 : b (3 * i + 1) < v.n
          · rw [if_neg (nI_ge d2 (by omega)), show (2 : Int32) = nI 2 from rfl, nI_add, e_byte hb hT (by omega), bd_s]
            by_cases d3 : b (3 * i + 2) ≤ 1
            · rw [if_pos (show nI (b (3 * i + 2)) ≤ 1 from nI_le (b := 1) d3 (by omega)), show X6_get σ (9 + 3) (nI (b (3 * i + 1))) = _ from g_own kd9' W R d2, bd_s]
              by_cases d4 : v.own (b (3 * i + 1)) = none
              · left
                rw [if_pos (show oI (v.own (b (3 * i + 1))) = -1 by rw [d4]; rfl)]
                exact bad (by unfold View.row3; simp [d4])
              · rw [if_neg (fun z : oI (v.own _) = -1 => d4 ((own_on W d2).mp z))]
                by_cases d5 : v.own (b (3 * i + 1)) = some (b (3 * i))
                · left
                  rw [if_pos (show oI (v.own (b (3 * i + 1))) = nI (b (3 * i)) by rw [d5]; rfl)]
                  exact bad (by unfold View.row3; simp [d5])
                · right
                  rw [if_neg (fun z => d5 ((own_is W d2 (by omega)).mp z)), show (3 : Int32) = nI 3 from rfl, nI_add]
                  refine ⟨(), by rw [nI_mul, Nat.mul_succ], ?_⟩
                  rw [anyR_app, hP, Nat.zero_add, Bool.false_or]
                  unfold View.row3
                  simp [d1, d2, d3, d4, d5]
            · left
              rw [if_neg (show ¬ nI (b (3 * i + 2)) ≤ 1 from nI_ge (b := b (3 * i + 2)) (a := 1) (by omega) (by omega))]
              exact bad (by unfold View.row3; simp [d3])
          · left
            rw [if_pos (nI_le (by omega) (by omega))]
            exact bad (by unfold View.row3; simp [d2])
        · left
          rw [if_pos (nI_le (by omega) (by omega))]
          exact bad (by unfold View.row3; simp [d1])
    · rw [if_neg (fun z => c2 (nI_inj (by omega) (by omega) z)), decide_eq_false c2]; rfl
  · rw [if_pos (show (39 : Int32) < nI T from nI_lt (a := 39) (by omega) (by omega)), decide_eq_false c1]; rfl
theorem m_row3 (W : WF v) (M : SM (σ 400) v) (hb : Byts σ T b) (hT : T ≤ 400) {i : Nat} (hi : 3 * i + 2 < T) : X12_isRow σ (nI (3 * i)) = some (b2i (v.row3 b i)) := by
  have h9 := W.n9
  have h6 := W.k6
  have l0 := (hb (3 * i) (by omega)).2.2
  have l1 := (hb (3 * i + 1) (by omega)).2.2
  have l2 := (hb (3 * i + 2) (by omega)).2.2
  have m0 := m_byte hb hT (show 3 * i < T by omega)
  have m1 : ag σ 404 (nI (3 * i) + 1) = some (nI (b (3 * i + 1))) := by rw [nI_1]; exact m_byte hb hT (by omega)
  have m2 : ag σ 404 (nI (3 * i) + 2) = some (nI (b (3 * i + 2))) := by rw [show (2 : Int32) = nI 2 from rfl, nI_add]; exact m_byte hb hT (by omega)
  unfold X12_isRow View.row3
  rw [m0, bd_s, show ag σ 400 4 = _ from a_k M, bd_s]
  by_cases d1 : b (3 * i) < v.k
  · rw [if_neg (nI_ge d1 (by omega)), m1, bd_s, show ag σ 400 3 = _ from a_n M, bd_s]
    by_cases d2 : b (3 * i + 1) < v.n
    · rw [if_neg (nI_ge d2 (by omega)), m2, bd_s]
      by_cases d3 : b (3 * i + 2) ≤ 1
      · rw [if_pos (show nI (b (3 * i + 2)) ≤ 1 from nI_le (b := 1) d3 (by omega)), bd_s, show X12_of σ (nI (b (3 * i + 1))) 2 = _ from o_own W M d2, bd_s]
        by_cases d4 : v.own (b (3 * i + 1)) = none
        · rw [if_pos (show oI (v.own (b (3 * i + 1))) = -1 by rw [d4]; rfl)]
          simp [d4]; rfl
        · rw [if_neg (fun z : oI (v.own _) = -1 => d4 ((own_on W d2).mp z)), bd_s, show X12_of σ (nI (b (3 * i + 1))) 2 = _ from o_own W M d2, bd_s, bd_s]
          by_cases d5 : v.own (b (3 * i + 1)) = some (b (3 * i))
          · rw [if_pos (show oI (v.own (b (3 * i + 1))) = nI (b (3 * i)) by rw [d5]; rfl)]
            simp [d5]; rfl
          · rw [if_neg (fun z => d5 ((own_is W d2 (by omega)).mp z))]
            simp [d1, d2, d3, d4, d5]; rfl
      · rw [if_neg (show ¬ nI (b (3 * i + 2)) ≤ 1 from nI_ge (b := b (3 * i + 2)) (a := 1) (by omega) (by omega))]
        simp [d3]; rfl
    · rw [if_pos (nI_le (by omega) (by omega))]
      simp [d2]; rfl
  · rw [if_pos (nI_le (by omega) (by omega))]
    simp [d1]; rfl
noncomputable def View.fit (v : View) (b : Nat → Nat) (q i : Nat) : Bool := decide (q ≤ v.lo (b (3 * i)) (b (3 * i + 1))) == decide (b (3 * i + 2) = 1)
noncomputable def View.fits (v : View) (b : Nat → Nat) (N q : Nat) : Bool := !anyR (fun i => !v.fit b q i) 0 N
noncomputable def View.lrn (v : View) (b : Nat → Nat) (N : Nat) : Nat → Int32 := iterN (fun a q => if v.fits b N (q + 1) = true then a ||| bitv (q + 1) else a) (nI 0)
theorem row3_lt {i : Nat} (h : v.row3 b i = true) : b (3 * i) < v.k ∧ b (3 * i + 1) < v.n := by
  unfold View.row3 at h
  simp only [Bool.and_eq_true, decide_eq_true_eq] at h
  exact ⟨h.1.1.1.1, h.1.1.1.2⟩
theorem rows3_t (h : v.rows3 b T = true) : T ≤ 39 ∧ T % 3 = 0 ∧ ∀ i, i < T / 3 → v.row3 b i = true := by
  unfold View.rows3 at h
  simp only [Bool.and_eq_true, decide_eq_true_eq, Bool.not_eq_true'] at h
  obtain ⟨⟨h1, h2⟩, h3⟩ := h
  refine ⟨h1, h2, fun i hi => ?_⟩
  have := anyR_no.mp h3 i (Nat.zero_le _) (by omega)
  simpa using this
theorem fits_s {q i : Nat} : (!anyR (fun i => !v.fit b q i) 0 (i + 1)) = ((!anyR (fun i => !v.fit b q i) 0 i) && v.fit b q i) := by
  rw [anyR_app, Nat.zero_add, Bool.not_or, Bool.not_not]
theorem lo9 (W : WF v) {w p : Nat} (hw : w < v.k) (hp : p < v.n) : v.lo w p ≤ 9 := by
  unfold View.lo
  cases ho : v.own p with
  | none => exact Nat.le_of_ble_eq_true rfl
  | some o => exact W.like w o hw (W.own p o hp ho)
theorem e_lrn (W : WF v) (R : SC σ 9 v e) (hb : Byts σ (3 * N) b) (hT : 3 * N ≤ 400) (hr : ∀ i, i < N → v.row3 b i = true) : X1_boundsThatFit σ 9 (nI (3 * N)) = some (v.lrn b N 9) := by
  have h9 := W.n9
  have h6 := W.k6
  unfold X1_boundsThatFit
  rw [show (0 : Int32) = nI 0 from rfl, show (1 : Int32) = nI 0 + 1 from rfl]
  refine loop_P (L := fun f (a : Int32) i => X1_boundsThatFit_6 σ f 9 (nI (3 * N)) a (i + 1)) (P := fun i a => a = v.lrn b N i) (Q := fun r => r = some (v.lrn b N 9)) (n := 9) (a := nI 0) (fun f a hP => ?_) (fun f a q hq hP => Or.inr ?_) (Nat.zero_le _) (FUb (by omega)) rfl
  · rw [X1_boundsThatFit_6, if_pos (show (9 : Int32) < nI 9 + 1 by decide), hP]
  · refine ⟨v.lrn b N (q + 1), ?_, rfl⟩
    rw [X1_boundsThatFit_6, nI_1, if_neg (show ¬ (9 : Int32) < nI (q + 1) from nI_nlt (a := 9) (by omega) (by omega)), show (0 : Int32) = nI 3 * nI 0 from rfl]
    refine loop_P (L := fun f2 (c : Bool) i => X1_boundsThatFit_19 σ (X1_boundsThatFit_6 σ f) f2 9 (nI (3 * N)) a (nI (q + 1)) (b2i c) (nI 3 * i)) (P := fun i c => c = !anyR (fun i => !v.fit b (q + 1) i) 0 i) (Q := fun r => r = X1_boundsThatFit_6 σ f 9 (nI (3 * N)) (v.lrn b N (q + 1)) (nI (q + 1) + 1)) (n := N) (a := true) (fun f2 c hc => ?_) (fun f2 c i hi hc => Or.inr ?_) (Nat.zero_le _) (FUb (by omega)) rfl
    · rw [X1_boundsThatFit_19, nI_mul, if_pos (nI_le (Nat.le_refl _) (by omega)), e_bit, bd_s]
      have hl : v.lrn b N (q + 1) = if v.fits b N (q + 1) = true then a ||| bitv (q + 1) else a := by rw [hP]; rfl
      rw [hl, show v.fits b N (q + 1) = c from hc.symm]
      cases c <;> rfl
    · obtain ⟨r1, r2⟩ := row3_lt (hr i hi)
      have l2 := (hb (3 * i + 2) (by omega)).2.2
      have hlo := lo9 W r1 r2
      rw [X1_boundsThatFit_19, nI_mul, if_neg (nI_ge (by omega) (by omega)), e_byte hb hT (by omega), bd_s, nI_1, e_byte hb hT (by omega), bd_s, e_likesFor kd9' W R r1 r2, bd_s]
      unfold X1_boundsThatFit_59 X1_boundsThatFit_76 X1_boundsThatFit_84
      rw [show (2 : Int32) = nI 2 from rfl, nI_add, e_byte hb hT (by omega), bd_s, show (3 : Int32) = nI 3 from rfl, nI_add]
      refine ⟨_, ?_, rfl⟩
      rw [fits_s, ← hc, nI_mul, Nat.mul_succ]
      unfold View.fit
      have e1 : (nI (v.lo (b (3 * i)) (b (3 * i + 1))) < nI (q + 1)) ↔ ¬ (q + 1 ≤ v.lo (b (3 * i)) (b (3 * i + 1))) := by rw [nI_ltI (by omega) (by omega)]; omega
      have e2 : (nI (b (3 * i + 2)) = 1) ↔ b (3 * i + 2) = 1 := ⟨fun z => nI_inj (b := 1) (by omega) (by omega) z, fun z => by rw [z]; rfl⟩
      have b1 : ∀ c : Bool, b2i c &&& 1 = b2i c := by intro c; cases c <;> rfl
      have b0 : ∀ c : Bool, b2i c &&& 0 = b2i false := by intro c; cases c <;> rfl
      by_cases d1 : q + 1 ≤ v.lo (b (3 * i)) (b (3 * i + 1))
      · rw [if_neg (fun z => e1.mp z d1), decide_eq_true d1, bd_s]
        by_cases d2 : b (3 * i + 2) = 1
        · rw [if_pos (e2.mpr d2), if_pos rfl, decide_eq_true d2, b1]; simp
        · rw [if_neg (fun z => d2 (e2.mp z)), if_neg (by decide), decide_eq_false d2, b0]; simp
      · rw [if_pos (e1.mpr d1), decide_eq_false d1]
        by_cases d2 : b (3 * i + 2) = 1
        · rw [if_pos (e2.mpr d2), if_neg (by decide), decide_eq_true d2, b0]; simp
        · rw [if_neg (fun z => d2 (e2.mp z)), if_pos rfl, decide_eq_false d2, b1]; simp
theorem m_lrn (W : WF v) (M : SM (σ 400) v) (hb : Byts σ (3 * N) b) (hT : 3 * N ≤ 400) (hr : ∀ i, i < N → v.row3 b i = true) : X12_learnt_78 FU (nI (3 * N)) 0 1 σ = some (v.lrn b N 9, σ) := by
  have h9 := W.n9
  have h6 := W.k6
  rw [show (0 : Int32) = nI 0 from rfl, show (1 : Int32) = nI 0 + 1 from rfl]
  refine loop_P (L := fun f (a : Int32) i => X12_learnt_78 f (nI (3 * N)) a (i + 1) σ) (P := fun i a => a = v.lrn b N i) (Q := fun r => r = some (v.lrn b N 9, σ)) (n := 9) (a := nI 0) (fun f a hP => ?_) (fun f a q hq hP => Or.inr ?_) (Nat.zero_le _) (FUb (by omega)) rfl
  · rw [X12_learnt_78, if_pos (show (10 : Int32) ≤ nI 9 + 1 by decide), hP]
  · refine ⟨v.lrn b N (q + 1), ?_, rfl⟩
    rw [X12_learnt_78, nI_1, if_neg (show ¬ (10 : Int32) ≤ nI (q + 1) from nI_ge (b := 10) (by omega) (by omega)), show (0 : Int32) = nI 3 * nI 0 from rfl]
    have fin : ∀ c : Bool, c = v.fits b N (q + 1) → X12_learnt_166 (X12_learnt_78 f) (nI (3 * N)) a (nI (q + 1)) (b2i c) σ = X12_learnt_78 f (nI (3 * N)) (v.lrn b N (q + 1)) (nI (q + 1) + 1) σ := by
      intro c hc
      have hl : v.lrn b N (q + 1) = if v.fits b N (q + 1) = true then a ||| bitv (q + 1) else a := by rw [hP]; rfl
      rw [hl, ← hc]
      unfold X12_learnt_166 X12_learnt_180
      cases c with
      | true => rw [if_neg (show ¬ b2i true = 0 by decide), if_pos rfl]; rfl
      | false => rw [if_pos (show b2i false = 0 from rfl), if_neg (by decide), show (0 : Int32) = nI 0 from rfl, or_0]
    refine loop_P (L := fun f2 (c : Bool) i => X12_learnt_91 (X12_learnt_78 f) f2 (nI (3 * N)) a (nI (q + 1)) (b2i c) (nI 3 * i) σ) (P := fun i c => c = !anyR (fun i => !v.fit b (q + 1) i) 0 i) (Q := fun r => r = X12_learnt_78 f (nI (3 * N)) (v.lrn b N (q + 1)) (nI (q + 1) + 1) σ) (n := N) (a := true) (fun f2 c hc => ?_) (fun f2 c i hi hc => ?_) (Nat.zero_le _) (FUb (by omega)) rfl
    · rw [X12_learnt_91, nI_mul, if_pos (nI_le (Nat.le_refl _) (by omega))]
      exact fin c hc
    · obtain ⟨r1, r2⟩ := row3_lt (hr i hi)
      have l2 := (hb (3 * i + 2) (by omega)).2.2
      have hlo := lo9 W r1 r2
      rw [X12_learnt_91, nI_mul, if_neg (nI_ge (by omega) (by omega))]
      cases hcc : c with
      | false =>
        left
        rw [if_pos (show b2i false = 0 from rfl)]
        refine fin false ?_
        rw [hcc] at hc
        unfold View.fits
        have hx : anyR (fun i => !v.fit b (q + 1) i) 0 i = true := by
          cases h : anyR (fun i => !v.fit b (q + 1) i) 0 i with
          | true => rfl
          | false => rw [h] at hc; cases hc
        obtain ⟨y, y0, y1, y2⟩ := anyR_iff.mp hx
        rw [anyR_iff.mpr ⟨y, y0, by omega, y2⟩]; rfl
      | true =>
        right
        rw [hcc] at hc
        rw [if_neg (show ¬ b2i true = 0 by decide), m_byte hb hT (by omega), bd_s, nI_1, m_byte hb hT (by omega), bd_s, m_likesOwner W M r1 r2, bd_s]
        unfold X12_learnt_132 X12_learnt_150 X12_learnt_158
        rw [show (2 : Int32) = nI 2 from rfl, nI_add, m_byte hb hT (by omega), bd_s, show (3 : Int32) = nI 3 from rfl, nI_add]
        refine ⟨_, ?_, rfl⟩
        rw [fits_s, ← hc, nI_mul, Nat.mul_succ, Bool.true_and]
        unfold View.fit
        have e1 : (nI (v.lo (b (3 * i)) (b (3 * i + 1))) < nI (q + 1)) ↔ ¬ (q + 1 ≤ v.lo (b (3 * i)) (b (3 * i + 1))) := by rw [nI_ltI (by omega) (by omega)]; omega
        have e2 : (nI (b (3 * i + 2)) = 1) ↔ b (3 * i + 2) = 1 := ⟨fun z => nI_inj (b := 1) (by omega) (by omega) z, fun z => by rw [z]; rfl⟩
        by_cases d1 : q + 1 ≤ v.lo (b (3 * i)) (b (3 * i + 1))
        · rw [if_neg (fun z => e1.mp z d1), decide_eq_true d1, bd_s]
          by_cases d2 : b (3 * i + 2) = 1
          · rw [if_pos (e2.mpr d2), if_pos rfl, decide_eq_true d2]; rfl
          · rw [if_neg (fun z => d2 (e2.mp z)), if_neg (by decide), decide_eq_false d2]; rfl
        · rw [if_pos (e1.mpr d1), decide_eq_false d1]
          by_cases d2 : b (3 * i + 2) = 1
          · rw [if_pos (e2.mpr d2), if_neg (by decide), decide_eq_true d2]; rfl
          · rw [if_neg (fun z => d2 (e2.mp z)), if_pos rfl, decide_eq_false d2]; rfl
theorem m_rows3 (W : WF v) (M : SM (σ 400) v) (hb : Byts σ T b) (hT : T ≤ 400) (h8 : σ 399 8 = nI T) : X12_learnt σ = X12_learnt_61 (nI T) (b2i (!v.rows3 b T)) (st σ 399 8 0) := by
  unfold X12_learnt
  rw [pu_s, bd_s, h8, mod3 (by omega)]
  have M1 : SM ((st σ 399 8 0) 400) v := by rw [st_n (by decide)]; exact M
  have hb1 : Byts (st σ 399 8 0) T b := hb.move (st_n (by decide)) (st_n (by decide))
  generalize st σ 399 8 0 = τ at M1 hb1
  have no : X12_learnt_26 (nI T) τ = X12_learnt_61 (nI T) (b2i true) τ := by
    unfold X12_learnt_26 X12_learnt_27
    obtain ⟨z, hz⟩ : ∃ z, FU = z + 1 := ⟨FU - 1, by rfl⟩
    rw [hz, X12_learnt_30]
    unfold X12_learnt_51
    by_cases c : nI T ≤ 0
    · rw [if_pos c, if_pos rfl]; rfl
    · rw [if_neg c, if_pos rfl, if_pos rfl]; rfl
  by_cases c2 : T % 3 = 0
  · rw [if_pos (by rw [c2]; rfl)]
    by_cases c1 : T ≤ 39
    · rw [if_neg (show ¬ (39 : Int32) < nI T from nI_nlt (a := 39) c1 (by omega))]
      unfold X12_learnt_27
      have hN : T = 3 * (T / 3) := by omega
      unfold View.rows3
      rw [decide_eq_true c1, decide_eq_true c2, Bool.true_and, Bool.true_and, Bool.not_not]
      generalize T / 3 = N at hN ⊢
      rw [show (0 : Int32) = nI 3 * nI 0 from rfl]
      have fin : ∀ c : Bool, X12_learnt_51 (nI T) (b2i c) τ = X12_learnt_61 (nI T) (b2i (!c)) τ := by
        intro c
        unfold X12_learnt_51
        cases c <;> rfl
      refine loop_P (L := fun f (c : Bool) i => X12_learnt_30 f (nI T) (b2i c) (nI 3 * i) τ) (P := fun i c => c = !anyR (fun i => !v.row3 b i) 0 i) (Q := fun r => r = X12_learnt_61 (nI T) (b2i (anyR (fun i => !v.row3 b i) 0 N)) τ) (n := N) (a := true) (fun f c hc => ?_) (fun f c i hi hc => ?_) (Nat.zero_le _) (FUb (by omega)) rfl
      · rw [X12_learnt_30, nI_mul, if_pos (nI_le (by omega) (by omega)), fin, hc, Bool.not_not]
      · rw [X12_learnt_30, nI_mul, if_neg (nI_ge (by omega) (by omega))]
        cases hcc : c with
        | false =>
          left
          rw [if_pos (show b2i false = 0 from rfl), fin]
          rw [hcc] at hc
          have hx : anyR (fun i => !v.row3 b i) 0 i = true := by
            cases h : anyR (fun i => !v.row3 b i) 0 i with
            | true => rfl
            | false => rw [h] at hc; cases hc
          obtain ⟨y, y0, y1, y2⟩ := anyR_iff.mp hx
          rw [anyR_iff.mpr ⟨y, y0, by omega, y2⟩]; rfl
        | true =>
          right
          rw [hcc] at hc
          rw [if_neg (show ¬ b2i true = 0 by decide), m_row3 W M1 hb1 hT (by omega), bd_s, show (3 : Int32) = nI 3 from rfl, nI_add]
          refine ⟨v.row3 b i, by rw [nI_mul, Nat.mul_succ], ?_⟩
          rw [anyR_app, Nat.zero_add, Bool.not_or, Bool.not_not, ← hc, Bool.true_and]
    · rw [if_pos (show (39 : Int32) < nI T from nI_lt (a := 39) (by omega) (by omega)), no]
      unfold View.rows3
      rw [decide_eq_false c1]; rfl
  · rw [if_neg (show ¬ nI (T % 3) = 0 from fun z => c2 (nI_inj (b := 0) (by omega) (by omega) z)), no]
    unfold View.rows3
    rw [decide_eq_false c2, Bool.and_false]; rfl
theorem r_34 (hC : Core (1000 * j) σ v L) (hR : Rest (1000 * j) σ v.txt) : ∃ σ3, lw_34 x1 x2 x3 x4 x5 σ = some (true, σ3) ∧ Inv (j + 1) σ3 := by
  obtain ⟨W, R, M, K, KT, Kl⟩ := id hC
  obtain ⟨T, b, t1, t2, t3, t4⟩ := hR.2.1.byts
  have R1 : SC (st σ 1 1 0) 9 v (1000 * j) := R.move fun c c1 c2 => st_n (by omega)
  have b1 : Byts (st σ 1 1 0) T b := t4.move (st_n (by decide)) (st_n (by decide))
  have hMis : Mis (st σ 1 1 0) := ⟨fun i hi => by rw [st_n (by decide)]; exact hR.2.2.2.2.1 i hi, by rw [st_n (by decide)]; exact hR.2.2.2.2.2⟩
  cases hrows : v.rows3 b T with
  | false =>
    have hA : L_learnt σ = some (nI 1, st σ 1 1 0) := by
      unfold L_learnt X11_learnt X10_useUp
      rw [pu_s, bd_s, bd2_s, t2, e_rows3 W R1 b1 t1, hrows, bd_s, if_pos (show b2i false = 0 from rfl), bdx2_r]
      exact hx_1
    have hB : X12_learnt (st σ 1 1 0) = some (nI 0, st (st (st σ 1 1 0) 399 8 0) 399 0 (nI 1)) := by
      rw [m_rows3 W (show SM ((st σ 1 1 0) 400) v by rw [st_n (by decide)]; exact M) b1 t1 (by rw [st_n (by decide)]; exact t3), hrows]
      unfold X12_learnt_61
      rw [pu_s, bd_s, st_at, if_neg (by decide)]; rfl
    refine roadI (Bf := fun τ => X12_learnt τ) hA hB st_at (fun h => absurd h n0) (use_inv hC hR (fun c hc => st_n (by omega)) hMis st_at (st_at' (by decide)) (fun c hc => by rw [st_n (by omega), st_n (by omega)]) (fun i hi => by rw [st_at' (by omega), st_at' (by omega)]) ?_ (by rw [st_at' (by decide), st_at]; rfl) (by rw [st_n (by decide), st_n (by decide)]))
    refine BO.th ?_
    unfold BO
    rw [st_at' (by decide), st_at' (by decide), st_n (by decide)]
    exact hR.1
  | true =>
    obtain ⟨c1, c2, c3⟩ := rows3_t hrows
    have hN : T = 3 * (T / 3) := by omega
    generalize T / 3 = N at hN c3
    subst hN
    have hA : L_learnt σ = some (nI 0, st (st σ 1 1 0) 411 0 (v.lrn b N 9)) := by
      unfold L_learnt X11_learnt X10_useUp
      rw [pu_s, bd_s, bd2_s, t2, e_rows3 W R1 b1 t1, hrows, bd_s, if_neg (show ¬ b2i true = 0 by decide), e_lrn W R1 b1 t1 c3, bd_s, bdx2_l]
      rfl
    generalize hρ : st (st σ 1 1 0) 411 0 (v.lrn b N 9) = ρ at hA
    have f : ∀ c, c ≠ 1 → c ≠ 411 → ρ c = σ c := fun c c1 c2 => by rw [← hρ, st_n c2, st_n c1]
    have M1 : SM (ρ 400) v := by rw [f 400 (by decide) (by decide)]; exact M
    have b2 : Byts ρ (3 * N) b := t4.move (f 3 (by decide) (by decide)) (f 404 (by decide) (by decide))
    have M2 : SM ((st (st ρ 399 8 0) 399 0 (nI 0)) 400) v := by rw [st_n (by decide), st_n (by decide)]; exact M1
    have b3 : Byts (st (st ρ 399 8 0) 399 0 (nI 0)) (3 * N) b := b2.move (by rw [st_n (by decide), st_n (by decide)]) (by rw [st_n (by decide), st_n (by decide)])
    have hB : X12_learnt ρ = some (v.lrn b N 9, st (st ρ 399 8 0) 399 0 (nI 0)) := by
      rw [m_rows3 W M1 b2 t1 (by rw [f 399 (by decide) (by decide)]; exact t3), hrows]
      unfold X12_learnt_61
      rw [pu_s, bd_s, st_at, if_pos (by decide)]
      exact m_lrn W M2 b3 t1 c3
    refine roadI (Bf := fun τ => X12_learnt τ) hA hB st_at (fun h => ?_) (use_inv hC hR (σ1 := ρ) (fun c hc => f c (by omega) (by omega)) ?_ ?_ ?_ (fun c hc => by rw [st_n (by omega), st_n (by omega)]) (fun i hi => by rw [st_at' (by omega), st_at' (by omega)]) ?_ (by rw [st_at' (by decide), st_at]; rfl) (by rw [st_n (by decide), st_n (by decide)]))
    · rw [st_n (by decide), st_n (by decide), ← hρ, st_at]
    · exact ⟨fun i hi => by rw [f 391 (by decide) (by decide)]; exact hR.2.2.2.2.1 i hi, by rw [f 398 (by decide) (by decide)]; exact hR.2.2.2.2.2⟩
    · rw [← hρ, st_n (by decide), st_at]; rfl
    · rw [← hρ, st_n (by decide), st_at' (by decide)]
    · refine BO.th ?_
      unfold BO
      rw [st_at' (by decide), st_at' (by decide), f 399 (by decide) (by decide)]
      exact hR.1
end LEARNT

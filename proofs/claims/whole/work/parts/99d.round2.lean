/-! the round, component and reference -/
/-- the far table, up to row i and the first y of it -/
def FT (v : View) (t : Nat → Int32) (i y : Nat) : Prop := ∀ p q, p < v.n → q < v.n → (p < i ∨ p = i ∧ q < y) → t (9 * p + q) = oI (v.far p q)
def TRc (v : View) (P D : Nat) (t : Nat → Int32) (i : Nat) : Prop := ∀ S, S ≤ i → (∀ q, q < 9 → S.testBit q = true → D.testBit q = true) → ∀ p, p < v.n → v.ball P 9 p = true → t (9 * S + p) = nI (v.F S p)
def TRm (v : View) (b : Nat → Nat) (T : Nat) (t : Nat → Int32) (V : Nat) : Prop := ∀ V2, V < V2 → V2 < 2 ^ T → ∀ x, x < T → t (9 * V2 + x) = nI (v.F (Rm v.n b T V2) (b x))
section ROUND
variable {σ σ1 σ2 τ : Mem} {v : View} {L : Lw} {j e T P D S V : Nat} {b : Nat → Nat} {x1 x2 x3 x4 x5 : Int32}
theorem ln389 : ln 389 = 81 := by decide +kernel
theorem ln391 : ln 391 = 4608 := by decide +kernel
theorem ln406 : ln 406 = 81 := by decide +kernel
theorem ln407 : ln 407 = 2304 := by decide +kernel
theorem ft_row {t : Nat → Int32} {i : Nat} (h : FT v t i v.n) : FT v t (i + 1) 0 := fun p q hp hq hc => h p q hp hq (by omega)
theorem e_measure (W : WF v) (R : SC σ 9 v e) : ∃ σ1, X5_measure 9 σ = some σ1 ∧ EqBut σ σ1 389 ∧ FT v (σ1 389) v.n 0 := by
  have h9 := W.n9
  unfold X5_measure
  rw [show (0 : Int32) = nI 0 from rfl]
  refine loop_P (L := fun f (a : Mem) i => X5_measure_2 f 9 i a) (P := fun i a => EqBut σ a 389 ∧ FT v (a 389) i 0) (Q := fun r => ∃ σ1, r = some σ1 ∧ EqBut σ σ1 389 ∧ FT v (σ1 389) v.n 0) (n := v.n) (a := σ) (fun f a hP => ?_) (fun f a i hi hP => ?_) (Nat.zero_le _) (FUb (by omega)) ⟨fun _ _ => rfl, fun p q _ _ h => by omega⟩
  · have R1 : SC a 9 v e := R.move fun c h1 h2 => hP.1 c (by omega)
    exact ⟨a, by rw [X5_measure_2, R1.n, if_pos (nI_le (Nat.le_refl _) (by omega))], hP.1, hP.2⟩
  · right
    have R1 : SC a 9 v e := R.move fun c h1 h2 => hP.1 c (by omega)
    have key : ∃ a', X5_measure_12 (X5_measure_2 f) FU 9 (nI i) (nI 0) a = X5_measure_2 f 9 (nI (i + 1)) a' ∧ EqBut σ a' 389 ∧ FT v (a' 389) (i + 1) 0 := by
      refine loop_P (L := fun f2 (c : Mem) y => X5_measure_12 (X5_measure_2 f) f2 9 (nI i) y c) (P := fun y c => EqBut σ c 389 ∧ FT v (c 389) i y) (Q := fun r => ∃ a', r = X5_measure_2 f 9 (nI (i + 1)) a' ∧ EqBut σ a' 389 ∧ FT v (a' 389) (i + 1) 0) (n := v.n) (a := a) (fun f2 c hc => ?_) (fun f2 c y hy hc => Or.inr ?_) (Nat.zero_le _) (FUb (by omega)) hP
      · have R2 : SC c 9 v e := R.move fun k h1 h2 => hc.1 k (by omega)
        exact ⟨c, by rw [X5_measure_12, R2.n, if_pos (nI_le (Nat.le_refl _) (by omega)), nI_1], hc.1, ft_row hc.2⟩
      · have R2 : SC c 9 v e := R.move fun k h1 h2 => hc.1 k (by omega)
        refine ⟨st c 389 (9 * i + y) (oI (v.far i y)), ?_, fun k hk => by rw [st_n hk, hc.1 k hk], fun p q hp hq h => ?_⟩
        · rw [X5_measure_12, R2.n, if_neg (nI_ge hy (by omega)), e_far kd9' W R2 hi hy, bd_s, show (9 : Int32) = nI 9 from rfl, nI_mul, nI_add, Nat.mul_comm i 9, e_set (B := 388) (show 9 * i + y < ln 389 by rw [ln389]; omega) (by rw [ln389]; decide), bd_s, nI_1]
        · by_cases d : p = i ∧ q = y
          · rw [d.1, d.2, st_at]
          · rw [st_at' (by omega)]; exact hc.2 p q hp hq (by omega)
    obtain ⟨a', k1, k2⟩ := key
    exact ⟨a', by rw [X5_measure_2, R1.n, if_neg (nI_ge hi (by omega)), show (0 : Int32) = nI 0 from rfl, k1], k2⟩
theorem e_sb (hS : S < 512) {p q : Nat} (hp : p < 9) (hq : q < 9) (hb : S.testBit q = true) : X5_stepsBy σ (nI S) (nI p) (nI q) = some (σ 389 (9 * p + q) + σ 391 (9 * rm S q + q)) := by
  have b1 := rm_nI_ S (by omega) q (by omega) hb
  have := rm_le S q
  unfold X5_stepsBy
  rw [e_bit, bd_s, show (9 : Int32) = nI 9 from rfl, nI_mul, nI_add, e_get (B := 388) (show p * 9 + q < ln 389 by rw [ln389]; omega) (by rw [ln389]; decide), bd_s, b1.1, show S - 2 ^ q = rm S q from rfl, nI_mul, nI_add, e_get (B := 390) (show rm S q * 9 + q < ln 391 by rw [ln391]; omega) (by rw [ln391]; decide), bd_s, Nat.mul_comm p 9, Nat.mul_comm (rm S q) 9]
theorem e_sb2 (W : WF v) (hP : P < v.n) (hF : FT v (σ 389) v.n 0) {i : Nat} (hT : TRc v P D (σ 391) i) (hS : S < 512) (hi : S ≤ i + 1) (hK : v.Kc P S) (hD : ∀ q, q < 9 → S.testBit q = true → D.testBit q = true) {p q : Nat} (hp : p < v.n) (kp : v.ball P 9 p = true) (hq : q < 9) (hb : S.testBit q = true) : X5_stepsBy σ (nI S) (nI p) (nI q) = some (nI (v.hq S p q)) := by
  have h9 := W.n9
  obtain ⟨k1, k2⟩ := hK q hq hb
  have hr := rm_le S q
  have hr2 : 0 < S → rm S q < S := fun h => rm_lt h
  have h0 : 0 < S := by
    rcases Nat.eq_zero_or_pos S with z | z
    · subst z; rw [Nat.zero_testBit] at hb; cases hb
    · exact z
  have hA := F_A W hP (rm S q) (by omega) (Kc_rm hS hq hb hK) q k1 k2
  rw [e_sb hS (by omega) hq hb, hF p q hp k1 (by omega), hT (rm S q) (by have := hr2 h0; omega) (fun i hi h => by rw [rm_b hS hq hi hb, Bool.and_eq_true] at h; exact hD i hi h.1) q k1 k2]
  cases hf : v.far p q with
  | none => exact absurd hf ((far_in W hP hp k1 kp).mpr k2)
  | some d => rw [hq_lt hf hA, show oI (some d) = nI d from rfl, nI_add]
theorem rm_cnt_ : ∀ S, S < 512 → ∀ l, l < 9 → S.testBit l = true → cntB (rm S l).testBit 9 + 1 = cntB S.testBit 9 := by decide +kernel
theorem F_fin9 : ∀ S, S < 512 → ∀ p, v.F S p = INF ∨ v.F S p ≤ 8 * cntB S.testBit 9 := by
  intro S
  induction S using Nat.strongRecOn with
  | ind S ih =>
    intro hS p
    by_cases h : 0 < S
    · rw [F_s h]
      rcases mA_ex (h := v.hq S p) (S := S.testBit) (a := INF) (m := 9) with z | ⟨q, q1, q2, q3⟩
      · exact Or.inl z
      · rw [q3]
        have hr := rm_lt (l := q) h
        have hc := rm_cnt_ S hS q q1 q2
        unfold View.hq pw
        cases hf : v.far p q with
        | none => exact Or.inl rfl
        | some d =>
          have := far_lt hf
          dsimp only
          rcases ih (rm S q) hr (by omega) q with z | z
          · rw [if_pos z]; exact Or.inl rfl
          · by_cases e : v.F (rm S q) q = INF
            · rw [if_pos e]; exact Or.inl rfl
            · rw [if_neg e]; exact Or.inr (by omega)
    · rw [show S = 0 by omega, F_0]; exact Or.inr (Nat.zero_le _)
theorem e_fewest (W : WF v) (hP : P < v.n) (hF : FT v (σ 389) v.n 0) {i : Nat} (hT : TRc v P D (σ 391) i) (hS : S < 512) (hi : S ≤ i + 1) (h0 : 0 < S) (hK : v.Kc P S) (hD : ∀ q, q < 9 → S.testBit q = true → D.testBit q = true) {p : Nat} (hp : p < v.n) : ∃ r, X5_fewestSteps σ (nI S) (nI p) = some r ∧ (v.ball P 9 p = true → r = nI (v.F S p)) := by
  have h9 := W.n9
  have hI : INF = 2000000000 := rfl
  unfold X5_fewestSteps
  rw [show (0 : Int32) = nI 0 from rfl]
  refine loop_P (L := fun f (a : Int32) x => X5_fewestSteps_7 σ f (nI S) (nI p) a x) (P := fun x a => v.ball P 9 p = true → a = nI (mA (v.hq S p) S.testBit 1000 x)) (Q := fun r => ∃ r2, r = some r2 ∧ (v.ball P 9 p = true → r2 = nI (v.F S p))) (n := 9) (a := 1000) (fun f a hPa => ?_) (fun f a x hx hPa => Or.inr ?_) (Nat.zero_le _) (FUb (by omega)) (fun _ => rfl)
  · refine ⟨a, by rw [X5_fewestSteps_7, if_pos (by decide)], fun kp => ?_⟩
    obtain ⟨q, q1, q2⟩ := bit_ex (n := 9) hS h0
    have hA : v.hq S p q ≤ 1000 := by
      obtain ⟨k1, k2⟩ := hK q q1 q2
      have hr := rm_le S q
      cases hf : v.far p q with
      | none => exact absurd hf ((far_in W hP hp k1 kp).mpr k2)
      | some d =>
        have hd := far_lt hf
        have hn := F_A W hP (rm S q) (by omega) (Kc_rm hS q1 q2 hK) q k1 k2
        have hc := cntB_le (f := (rm S q).testBit) (n := 9)
        rw [hq_lt hf hn]
        rcases F_fin9 (v := v) (rm S q) (by omega) q with z | z
        · exact absurd z hn
        · omega
    rw [hPa kp, F_s h0, mA_top (q := q) (c := INF) (a := 1000) q1 q2 hA (by omega)]
  · rw [X5_fewestSteps_7, if_neg (show ¬ (9 : Int32) ≤ nI x from nI_ge (b := 9) (by omega) (by omega)), e_hasBit, hb_nI (by omega) (by omega), bd_s, nI_1]
    cases c1 : S.testBit x with
    | false => exact ⟨a, by rw [if_pos (show b2i false = 0 from rfl)], fun kp => by rw [mA_s, if_neg (by rw [c1]; decide), hPa kp]⟩
    | true =>
      rw [if_neg (show ¬ b2i true = 0 by decide)]
      by_cases kp : v.ball P 9 p = true
      · have hle := hq_INF (v := v) (p := p) hS x
        have hm := mA_a (h := v.hq S p) (S := S.testBit) (a := 1000) (m := x)
        refine ⟨nI (mA (v.hq S p) S.testBit 1000 (x + 1)), ?_, fun _ => rfl⟩
        rw [e_sb2 W hP hF hT hS hi hK hD hp kp hx c1, bd_s, hPa kp, mA_s, if_pos c1]
        congr 1
        by_cases c : v.hq S p x < mA (v.hq S p) S.testBit 1000 x
        · rw [if_pos ((nI_ltI (by omega) (by omega)).mpr c), Nat.min_eq_right (by omega)]
        · rw [if_neg (fun z => c ((nI_ltI (by omega) (by omega)).mp z)), Nat.min_eq_left (by omega)]
      · rw [e_sb hS (by omega) hx c1, bd_s]
        exact ⟨_, rfl, fun h => absurd h kp⟩
def Eq2 (σ σ1 : Mem) : Prop := (∀ c, c ≠ 389 → c ≠ 391 → σ1 c = σ c) ∧ ∀ i, i < 9 → σ1 391 i = 0
theorem e_rs41 (W : WF v) (R : SC σ 9 v e) (hP : P < v.n) (hF : FT v (σ 389) v.n 0) {i : Nat} (hT : TRc v P D (σ 391) i) (hS : i + 1 < 512) (hK : v.Kc P (i + 1)) (hD : ∀ q, q < 9 → (i + 1).testBit q = true → D.testBit q = true) {rc : Nat → Int32 → Int32 → Int32 → Mem → Option (Int32 × Mem)} {y1 y2 : Int32} (hz : ∀ i, i < 9 → σ 391 i = 0) {Q : Option (Int32 × Mem) → Prop} (hq : ∀ σ1, EqBut σ σ1 391 → (∀ i, i < 9 → σ1 391 i = 0) → TRc v P D (σ1 391) (i + 1) → Q (rc 9 y1 y2 (nI (i + 1) + 1) σ1)) : Q (X5_roundSteps_41 rc FU 9 y1 y2 (nI (i + 1)) 0 σ) := by
  have h9 := W.n9
  rw [show (0 : Int32) = nI 0 from rfl]
  refine loop_P (L := fun f (a : Mem) x => X5_roundSteps_41 rc f 9 y1 y2 (nI (i + 1)) x a) (P := fun x a => EqBut σ a 391 ∧ (∀ i, i < 9 → a 391 i = 0) ∧ TRc v P D (a 391) i ∧ ∀ p, p < x → v.ball P 9 p = true → a 391 (9 * (i + 1) + p) = nI (v.F (i + 1) p)) (Q := Q) (n := v.n) (a := σ) (fun f a hPa => ?_) (fun f a x hx hPa => Or.inr ?_) (Nat.zero_le _) (FUb (by omega)) ⟨fun _ _ => rfl, hz, hT, fun p h => by omega⟩
  · obtain ⟨p1, p2, p3, p4⟩ := hPa
    have R1 : SC a 9 v e := R.move fun c h1 h2 => p1 c (by omega)
    rw [X5_roundSteps_41, R1.n, if_pos (nI_le (Nat.le_refl _) (by omega))]
    refine hq a p1 p2 fun S h1 h2 p hp kp => ?_
    by_cases c : S = i + 1
    · subst c; exact p4 p hp kp
    · exact p3 S (by omega) h2 p hp kp
  · obtain ⟨p1, p2, p3, p4⟩ := hPa
    have R1 : SC a 9 v e := R.move fun c h1 h2 => p1 c (by omega)
    have F1 : FT v (a 389) v.n 0 := by rw [p1 389 (by decide)]; exact hF
    obtain ⟨r, r1, r2⟩ := e_fewest W hP F1 p3 hS (Nat.le_refl _) (by omega) hK hD hx
    refine ⟨st a 391 (9 * (i + 1) + x) r, ?_, fun c hc => by rw [st_n hc, p1 c hc], fun i hi => by rw [st_at' (by omega), p2 i hi], fun S h1 h2 p hp kp => by rw [st_at' (by omega), p3 S h1 h2 p hp kp], fun p hp kp => ?_⟩
    · rw [X5_roundSteps_41, R1.n, if_neg (nI_ge hx (by omega)), r1, bd_s, show (9 : Int32) = nI 9 from rfl, nI_mul, nI_add, Nat.mul_comm (i + 1) 9, e_set (B := 390) (show 9 * (i + 1) + x < ln 391 by rw [ln391]; omega) (by rw [ln391]; decide), bd_s, nI_1]
    · by_cases c : p = x
      · subst c; rw [st_at]; exact r2 kp
      · rw [st_at' (by omega)]; exact p4 p (by omega) kp
theorem sub_iff (hS : S < 512) (hD : D < 512) : (nI S &&& (nI D ^^^ (-1 : Int32)) = 0) ↔ ∀ q, q < 9 → S.testBit q = true → D.testBit q = true := by
  rw [show (-1 : Int32) = oI none from rfl, xorN, set_nI (n := 9) (by omega) hS, mk_and_not (by omega), mk_eq_0 (by omega)]
  constructor
  · intro h q hq hb
    have := h q hq
    rw [hb, hb_nI (by omega) (by omega)] at this
    simpa using this
  · intro h q hq
    rw [hb_nI (by omega) (by omega)]
    cases hb : S.testBit q with
    | false => rfl
    | true => rw [h q hq hb]; rfl
theorem e_rs (W : WF v) (R : SC σ 9 v e) (hP : P < v.n) (hD : D < 512) (hDn : ∀ q, q < 9 → D.testBit q = true → q < v.n) (hM : Mis σ) : ∃ σ1, X5_roundSteps 9 (nI P) (nI D) σ = some (if v.F D P = INF then -1 else nI (v.F D P), σ1) ∧ Eq2 σ σ1 ∧ (v.F D P ≠ INF → v.Kc P D ∧ FT v (σ1 389) v.n 0 ∧ TRc v P D (σ1 391) D) := by
  have h9 := W.n9
  have bp : v.ball P 9 P = true := ball_self
  unfold X5_roundSteps
  rw [e_reached kd9' W R hP, bd_s]
  have hsub : (nI D &&& (mkB (v.reach (hb (-1)) P 9) v.n ^^^ (-1 : Int32)) = 0) ↔ v.Kc P D := by
    rw [show (-1 : Int32) = oI none from rfl, xorN, set_nI (n := 9) (by omega) hD, mk_and_not (by omega), mk_eq_0 (by omega)]
    constructor
    · intro h q hq hb2
      have := h q hq
      have hqn := hDn q hq hb2
      rw [hb2, hb_mk (by omega) (by omega), decide_eq_true hqn, show oI none = -1 from rfl, reach_all h9 9 q hqn] at this
      exact ⟨hqn, by simpa using this⟩
    · intro h q hq
      cases hb2 : D.testBit q with
      | false => rfl
      | true =>
        obtain ⟨hqn, k⟩ := h q hq hb2
        rw [hb_mk (by omega) (by omega), decide_eq_true hqn, show oI none = -1 from rfl, reach_all h9 9 q hqn, k]; rfl
  by_cases c : v.Kc P D
  · have hA := F_A W hP D hD c P hP bp
    rw [if_pos (hsub.mpr c), if_neg hA]
    obtain ⟨σ0, a1, a2, a3⟩ := e_measure W R
    rw [a1, bd_s, show (1 : Int32) = nI 0 + 1 from rfl]
    refine loop_P (L := fun f (a : Mem) x => X5_roundSteps_23 f 9 (nI P) (nI D) (x + 1) a) (P := fun i a => EqBut σ0 a 391 ∧ (∀ i, i < 9 → a 391 i = 0) ∧ TRc v P D (a 391) i) (Q := fun r => ∃ σ1, r = some (nI (v.F D P), σ1) ∧ Eq2 σ σ1 ∧ (v.F D P ≠ INF → v.Kc P D ∧ FT v (σ1 389) v.n 0 ∧ TRc v P D (σ1 391) D)) (n := D) (a := σ0) (fun f a hPa => ?_) (fun f a i hi hPa => ?_) (Nat.zero_le _) (FUb (by omega)) ⟨fun _ _ => rfl, fun i hi => by rw [a2 391 (by decide)]; exact hM.1 i hi, fun S hS _ p hp _ => ?_⟩
    · obtain ⟨p1, p2, p3⟩ := hPa
      refine ⟨a, ?_, ⟨fun c h1 h2 => by rw [p1 c h2, a2 c h1], p2⟩, fun _ => ⟨c, by rw [p1 389 (by decide)]; exact a3, p3⟩⟩
      rw [X5_roundSteps_23, nI_1, if_pos (nI_lt (by omega) (by omega)), show (9 : Int32) = nI 9 from rfl, nI_mul, nI_add, e_get (B := 390) (show D * 9 + P < ln 391 by rw [ln391]; omega) (by rw [ln391]; decide), bd_s, Nat.mul_comm D 9, show a (390 + 1) (9 * D + P) = _ from p3 D (Nat.le_refl _) (fun q _ h => h) P hP bp]
    · obtain ⟨p1, p2, p3⟩ := hPa
      have R1 : SC a 9 v e := R.move fun c h1 h2 => by rw [p1 c (by omega), a2 c (by omega)]
      rw [X5_roundSteps_23, nI_1, if_neg (nI_nlt (by omega) (by omega))]
      by_cases hs : nI (i + 1) &&& (nI D ^^^ (-1 : Int32)) = 0
      · have hs2 := (sub_iff (by omega) hD).mp hs
        rw [if_pos hs]
        have F1 : FT v (a 389) v.n 0 := by rw [p1 389 (by decide)]; exact a3
        refine e_rs41 W R1 hP F1 p3 (by omega) (fun q hq hb2 => c q hq (hs2 q hq hb2)) hs2 p2 (Q := fun r => (∃ σ1, r = some (nI (v.F D P), σ1) ∧ Eq2 σ σ1 ∧ (v.F D P ≠ INF → v.Kc P D ∧ FT v (σ1 389) v.n 0 ∧ TRc v P D (σ1 391) D)) ∨ ∃ a', r = X5_roundSteps_23 f 9 (nI P) (nI D) (nI (i + 1) + 1) a' ∧ EqBut σ0 a' 391 ∧ (∀ i, i < 9 → a' 391 i = 0) ∧ TRc v P D (a' 391) (i + 1)) (fun σ1 q1 q2 q3 => Or.inr ⟨σ1, rfl, fun c hc => by rw [q1 c hc, p1 c hc], q2, q3⟩)
      · rw [if_neg hs]
        refine Or.inr ⟨a, rfl, p1, p2, fun S h1 h2 p hp kp => ?_⟩
        by_cases d : S = i + 1
        · subst d; exact absurd ((sub_iff (by omega) hD).mpr h2) hs
        · exact p3 S (by omega) h2 p hp kp
    · rw [show S = 0 by omega, a2 391 (by decide), hM.1 (9 * 0 + p) (by omega)]; rfl
  · have hB : v.F D P = INF := by
      have : ∃ t, t < 9 ∧ D.testBit t = true ∧ v.ball P 9 t = false := by
        apply Classical.byContradiction
        intro hne
        refine c fun q hq hb2 => ⟨hDn q hq hb2, ?_⟩
        cases hb3 : v.ball P 9 q with
        | true => rfl
        | false => exact absurd ⟨q, hq, hb2, hb3⟩ hne
      exact F_B W hP D hD hDn this P hP bp
    rw [if_neg (fun z => c (hsub.mp z)), if_pos hB]
    exact ⟨σ, rfl, ⟨fun _ _ _ => rfl, hM.1⟩, fun h => absurd hB h⟩
theorem e_begin (W : WF v) (hP : P < v.n) (hD : D < 512) (hK : v.Kc P D) (hF : FT v (σ 389) v.n 0) (hT : TRc v P D (σ 391) D) {s : Nat} (hs : s ≤ INF) : X5_roundBegin σ (nI P) (nI D) (nI s) = some (oI (fs (fun q => D.testBit q && decide (v.hq D P q = s)) 0 9)) := by
  have h9 := W.n9
  have hI : INF = 2000000000 := rfl
  unfold X5_roundBegin
  have key : ∀ (m y fuel : Nat), y + m = 9 → m < fuel → X5_roundBegin_3 σ fuel (nI P) (nI D) (nI s) (nI y) = some (oI (fs (fun q => D.testBit q && decide (v.hq D P q = s)) y m)) := by
    intro m
    induction m with
    | zero =>
      intro y fuel hy hf
      obtain ⟨fuel, rfl⟩ : ∃ z, fuel = z + 1 := ⟨fuel - 1, by omega⟩
      rw [X5_roundBegin_3, if_pos (show (9 : Int32) ≤ nI y from nI_le (a := 9) (by omega) (by omega))]; rfl
    | succ m ih =>
      intro y fuel hy hf
      obtain ⟨fuel, rfl⟩ : ∃ z, fuel = z + 1 := ⟨fuel - 1, by omega⟩
      rw [X5_roundBegin_3, if_neg (show ¬ (9 : Int32) ≤ nI y from nI_ge (b := 9) (by omega) (by omega)), e_hasBit, hb_nI (by omega) (by omega), bd_s, nI_1, ih (y + 1) fuel (by omega) (by omega), fs]
      cases c1 : D.testBit y with
      | false => rw [if_pos (show b2i false = 0 from rfl), Bool.false_and, if_neg (by decide)]
      | true =>
        have hle := hq_INF (v := v) (p := P) hD y
        rw [if_neg (show ¬ b2i true = 0 by decide), e_sb2 W hP hF hT hD (by omega) hK (fun q _ h => h) hP ball_self (by omega) c1, bd_s, Bool.true_and]
        by_cases c : v.hq D P y = s
        · rw [if_pos (by rw [c]), decide_eq_true c, if_pos rfl]; rfl
        · rw [if_neg (fun z => c (nI_inj (by omega) (by omega) z)), decide_eq_false c, if_neg (by decide)]
  exact key 9 0 FU rfl (FUb (by omega))
end ROUND

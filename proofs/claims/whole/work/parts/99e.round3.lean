/-! the round: the reference -/
section ROUND3
variable {σ σ1 σ2 τ : Mem} {v : View} {L : Lw} {j e T P D S V n : Nat} {b : Nat → Nat} {x1 x2 x3 x4 x5 : Int32}
theorem vb_ : ∀ V, V < 256 → ∀ x, x < 8 → V.testBit x = false → nI V ||| bitv x = nI (V + 2 ^ x) ∧ V + 2 ^ x < 256 ∧ ∀ i, i < 8 → (V + 2 ^ x).testBit i = (V.testBit i || decide (i = x)) := by decide +kernel
theorem pow8 : ∀ T, T ≤ 8 → 1 ≤ 2 ^ T ∧ 2 ^ T ≤ 256 := by decide +kernel
theorem Rm_bit {p : Nat} : (Rm n b T V).testBit p = (decide (p < n) && anyR (fun t => !V.testBit t && decide (b t = p)) 0 T) := setN_bit
theorem Rm_t {p : Nat} (hn : okA n b T = true) : (Rm n b T V).testBit p = true ↔ ∃ t, t < T ∧ V.testBit t = false ∧ b t = p := by
  rw [Rm_bit, Bool.and_eq_true, decide_eq_true_eq, anyR_iff]
  constructor
  · rintro ⟨h1, t, -, t2, t3⟩
    rw [Bool.and_eq_true, decide_eq_true_eq, Bool.not_eq_true'] at t3
    exact ⟨t, by omega, t3.1, t3.2⟩
  · rintro ⟨t, t1, t2, t3⟩
    refine ⟨by rw [← t3]; exact okA_n hn t1, t, Nat.zero_le _, by omega, ?_⟩
    rw [t2, t3]; simp
theorem Rm_lt : Rm n b T V < 2 ^ n := setN_lt
theorem Rm_rm (hn9 : n ≤ 9) (hn : okA n b T = true) (hT : T ≤ 8) (hV : V < 2 ^ T) {x : Nat} (hx : x < T) (hx2 : V.testBit x = false) : rm (Rm n b T V) (b x) = Rm n b T (V + 2 ^ x) := by
  have hp := pow8 T hT
  have p9 := pow9_ n hn9
  have hl := Rm_lt (n := n) (b := b) (T := T) (V := V)
  have hl2 := Rm_lt (n := n) (b := b) (T := T) (V := V + 2 ^ x)
  have hb := okA_n hn hx
  have hin : (Rm n b T V).testBit (b x) = true := (Rm_t hn).mpr ⟨x, hx, hx2, rfl⟩
  obtain ⟨-, -, v3⟩ := vb_ V (by omega) x (by omega) hx2
  apply Nat.eq_of_testBit_eq
  intro i
  by_cases hi : i < 9
  · rw [rm_b (by omega) (by omega) hi hin]
    apply Bool.eq_iff_iff.mpr
    rw [Bool.and_eq_true, decide_eq_true_eq, Rm_t hn, Rm_t hn]
    constructor
    · rintro ⟨⟨t, t1, t2, t3⟩, h⟩
      refine ⟨t, t1, ?_, t3⟩
      rw [v3 t (by omega), t2, decide_eq_false (fun q => h (by rw [← t3, q]))]; rfl
    · rintro ⟨t, t1, t2, t3⟩
      rw [v3 t (by omega), Bool.or_eq_false_iff, decide_eq_false_iff_not] at t2
      exact ⟨⟨t, t1, t2.1, t3⟩, fun q => t2.2 (inj hn t1 hx (by rw [t3, q]))⟩
  · have h9 : 2 ^ 9 ≤ 2 ^ i := Nat.pow_le_pow_right (by decide) (by omega)
    have hr := rm_le (Rm n b T V) (b x)
    rw [Nat.testBit_lt_two_pow (by omega), Nat.testBit_lt_two_pow (by omega)]
theorem full_ : ∀ T, T ≤ 8 → ∀ i, i < T → (2 ^ T - 1).testBit i = true := by decide +kernel
theorem notfull_ : ∀ T, T ≤ 8 → ∀ V, V < 2 ^ T → V ≠ 2 ^ T - 1 → ∃ i, i < T ∧ V.testBit i = false := by
  intro T hT V hV hne
  apply Classical.byContradiction
  intro h
  apply hne
  apply Nat.eq_of_testBit_eq
  intro i
  by_cases hi : i < T
  · rw [full_ T hT i hi]
    cases hb : V.testBit i with
    | true => rfl
    | false => exact absurd ⟨i, hi, hb⟩ h
  · have : 2 ^ T ≤ 2 ^ i := Nat.pow_le_pow_right (by decide) (by omega)
    rw [Nat.testBit_lt_two_pow (by omega), Nat.testBit_lt_two_pow (by omega)]
theorem Rm_full (hn : okA n b T = true) (hT : T ≤ 8) : Rm n b T (2 ^ T - 1) = 0 := by
  apply Nat.eq_of_testBit_eq
  intro i
  rw [Nat.zero_testBit]
  cases h : (Rm n b T (2 ^ T - 1)).testBit i with
  | false => rfl
  | true =>
    obtain ⟨t, t1, t2, -⟩ := (Rm_t hn).mp h
    rw [full_ T hT t t1] at t2; cases t2
theorem Rm_pos (hn : okA n b T = true) {x : Nat} (hx : x < T) (hx2 : V.testBit x = false) : 0 < Rm n b T V := by
  have h := (Rm_t hn).mpr ⟨x, hx, hx2, rfl⟩
  rcases Nat.eq_zero_or_pos (Rm n b T V) with z | z
  · rw [z, Nat.zero_testBit] at h; cases h
  · exact z
/-- the fewest, over the places in the text -/
theorem F_pos (hn9 : v.n ≤ 9) (hn : okA v.n b T = true) (hT : T ≤ 8) (hV : V < 2 ^ T) {x : Nat} (hx : x < T) (hx2 : V.testBit x = false) (p : Nat) : mA (fun y => pw (v.far p (b y)) (v.F (Rm v.n b T (V + 2 ^ y)) (b y))) (fun y => !V.testBit y) INF T = v.F (Rm v.n b T V) p := by
  rw [F_s (Rm_pos hn hx hx2)]
  apply mA_uniq
  · intro q q1 q2
    rw [Bool.not_eq_true'] at q2
    refine ⟨b q, Nat.lt_of_lt_of_le (okA_n hn q1) hn9, (Rm_t hn).mpr ⟨q, q1, q2, rfl⟩, ?_⟩
    unfold View.hq
    rw [Rm_rm hn9 hn hT hV q1 q2]
  · intro r r1 r2
    obtain ⟨t, t1, t2, t3⟩ := (Rm_t hn).mp r2
    refine ⟨t, t1, by rw [t2]; rfl, ?_⟩
    unfold View.hq
    rw [← t3, Rm_rm hn9 hn hT hV t1 t2]
theorem inf_I : (2000000000 : Int32) = nI INF := rfl
theorem m_goBy (hb : Byts σ T b) (hT : T ≤ 400) (hF : FT v (σ 406) v.n 0) (h9 : v.n ≤ 9) {p x r : Nat} (hp : p < v.n) (hx : x < T) (hbx : b x < v.n) (hx8 : x < 8) (hV : V < 256) (hr : σ 407 (9 * V + x) = nI r) (hri : r ≤ INF) : X12_goesBy σ (nI p) (nI x) (nI V) = some (nI (pw (v.far p (b x)) r)) := by
  have hI : INF = 2000000000 := rfl
  unfold X12_goesBy X12_goesBy_45
  rw [m_byte hb hT hx, bd_s, show (9 : Int32) = nI 9 from rfl, nI_mul, nI_add, ag_nI (by rw [ln406]; omega) (by omega), bd_s, hF p (b x) hp hbx (by omega), nI_mul, nI_add, ag_nI (by rw [ln407]; omega) (by omega), bd_s, hr]
  unfold pw
  cases hf : v.far p (b x) with
  | none => rw [if_pos (show oI none = -1 from rfl)]; rfl
  | some d =>
    have := far_lt hf
    rw [if_neg (show ¬ oI (some d) = -1 from nI_m1 (by omega)), inf_I]
    dsimp only
    by_cases c : r = INF
    · rw [if_pos (by rw [c]), if_pos c]
    · rw [if_neg (fun z => c (nI_inj (by omega) (by omega) z)), if_neg c, show oI (some d) = nI d from rfl, nI_add]
theorem min_I {a c : Nat} (ha : a ≤ INF) (hc : c ≤ INF) : X12_lesser σ (nI a) (nI c) = some (nI (min a c)) := by
  have hI : INF = 2000000000 := rfl
  exact m_lesser (by omega) (by omega)
theorem pw_le {d : Option Nat} {q r : Nat} (hd : ∀ x, d = some x → x < 9) (h : r = INF ∨ r ≤ 9 * 512) : pw d r ≤ INF := by
  have hI : INF = 2000000000 := rfl
  unfold pw
  cases d with
  | none => exact Nat.le_refl _
  | some d =>
    have := hd d rfl
    dsimp only
    by_cases c : r = INF
    · rw [if_pos c]; exact Nat.le_refl _
    · rw [if_neg c]; omega
theorem F_fin2 (hS : S < 512) {p : Nat} : v.F S p = INF ∨ v.F S p ≤ 9 * 512 := by
  rcases F_fin (v := v) S p with z | z
  · exact Or.inl z
  · exact Or.inr (by omega)
/-- one entry of the roads -/
theorem m_road38 (h9 : v.n ≤ 9) (hb : Byts σ T b) (hn : okA v.n b T = true) (hT : T ≤ 8) (hF : FT v (σ 406) v.n 0) (hV0 : 0 < V) (hV : V < 2 ^ T) (hR : TRm v b T (σ 407) V) {rc6 : Int32 → Int32 → Mem → Option Mem} {rc12 : Int32 → Int32 → Int32 → Mem → Option Mem} {i : Nat} (hi : i < T) : X12_roadsOf_38 rc6 rc12 FU (nI T) (nI V) (nI i) (nI (if V = 2 ^ T - 1 then 0 else INF)) 0 σ = rc12 (nI T) (nI V) (nI (i + 1)) (st σ 407 (9 * V + i) (nI (v.F (Rm v.n b T V) (b i)))) := by
  have hp := pow8 T hT
  have p9 := pow9_ v.n h9
  let h : Nat → Nat := fun y => pw (v.far (b i) (b y)) (v.F (Rm v.n b T (V + 2 ^ y)) (b y))
  have hh : ∀ y, h y ≤ INF := fun y => pw_le (q := 0) (fun x e => far_lt e) (F_fin2 (by have := Rm_lt (n := v.n) (b := b) (T := T) (V := V + 2 ^ y); omega))
  generalize ha0 : (if V = 2 ^ T - 1 then 0 else INF) = a0
  have ha : a0 ≤ INF := by rw [← ha0]; split <;> omega
  rw [show (0 : Int32) = nI 0 from rfl]
  refine loop_P (L := fun f (c : Int32) y => X12_roadsOf_38 rc6 rc12 f (nI T) (nI V) (nI i) c y σ) (P := fun y c => c = nI (mA h (fun y => !V.testBit y) a0 y)) (Q := fun r => r = rc12 (nI T) (nI V) (nI (i + 1)) (st σ 407 (9 * V + i) (nI (v.F (Rm v.n b T V) (b i))))) (n := T) (a := nI a0) (fun f c hc => ?_) (fun f c y hy hc => Or.inr ⟨nI (mA h (fun y => !V.testBit y) a0 (y + 1)), ?_, rfl⟩) (Nat.zero_le _) (FUb (by omega)) rfl
  · have hE : mA h (fun y => !V.testBit y) a0 T = v.F (Rm v.n b T V) (b i) := by
      by_cases c : V = 2 ^ T - 1
      · rw [if_pos c] at ha0
        rw [c, Rm_full hn hT, F_0, ← ha0]
        have := mA_a (h := h) (S := fun y => !(2 ^ T - 1).testBit y) (a := 0) (m := T)
        omega
      · rw [if_neg c] at ha0
        obtain ⟨x, q1, q2⟩ := notfull_ T hT V hV c
        rw [← ha0]
        exact F_pos h9 hn hT hV q1 q2 (b i)
    rw [X12_roadsOf_38, if_pos (nI_le (Nat.le_refl _) (by omega)), show (9 : Int32) = nI 9 from rfl, nI_mul, nI_add, hc, hE, au_nI (by rw [ln407]; omega) (by omega), bd_s, nI_1]
  · rw [X12_roadsOf_38, if_neg (nI_ge hy (by omega)), e_isOf, hb_nI (by omega) (by omega), bd_s, nI_1, mA_s]
    cases c1 : V.testBit y with
    | true => rw [if_neg (show ¬ b2i true = 0 by decide), if_neg (show ¬ (!true) = true by decide), hc]
    | false =>
      obtain ⟨w1, w2, w3⟩ := vb_ V (by omega) y (by omega) c1
      have hv2 : V + 2 ^ y < 2 ^ T := by
        apply Nat.lt_of_not_le
        intro hge
        have : (V + 2 ^ y).testBit T = true ∨ 8 ≤ T := by
          by_cases c : T < 8
          · left
            have q : 2 ^ y < 2 ^ T := Nat.pow_lt_pow_right (by decide) hy
            have e : (V + 2 ^ y).testBit T = true := by
              rw [show V + 2 ^ y = 2 ^ T + (V + 2 ^ y - 2 ^ T) by omega, Nat.testBit_two_pow_add_eq, Nat.testBit_lt_two_pow (by omega)]; rfl
            exact e
          · exact Or.inr (by omega)
        rcases this with z | z
        · by_cases c : T < 8
          · rw [w3 T c, Nat.testBit_lt_two_pow hV, decide_eq_false (by omega)] at z; cases z
          · have : T = 8 := by omega
            subst this; omega
        · have : T = 8 := by omega
          subst this; omega
      have hm := mA_a (h := h) (S := fun y => !V.testBit y) (a := a0) (m := y)
      have hp2 := Nat.two_pow_pos y
      rw [if_pos (show b2i false = 0 from rfl), if_pos (show (!false) = true from rfl), m_byte hb (by omega) hi, bd_s, show (1 : Int32) <<< (nI y &&& 31) = bitv y from rfl, w1, m_goBy hb (by omega) hF h9 (okA_n hn hi) hy (okA_n hn hy) (by omega) w2 (hR (V + 2 ^ y) (by omega) hv2 y hy) F_le, bd_s, hc, min_I (Nat.le_trans mA_a ha) (hh y), bd_s]
theorem m_roads (h9 : v.n ≤ 9) (hb : Byts σ T b) (hn : okA v.n b T = true) (hT : T ≤ 8) (hF : FT v (σ 406) v.n 0) : ∃ σ1, X12_roadsOf (nI T) σ = some σ1 ∧ EqBut σ σ1 407 ∧ TRm v b T (σ1 407) 0 := by
  have hp := pow8 T hT
  have al : (1 : Int32) <<< (nI T &&& 31) - (1 : Int32) = nI (2 ^ T - 1) := all_nI_ T (by omega)
  unfold X12_roadsOf
  rw [al]
  have key : ∀ (V fuel : Nat) (a : Mem), V < fuel → V < 2 ^ T → EqBut σ a 407 → TRm v b T (a 407) V → ∃ σ1, X12_roadsOf_6 fuel (nI T) (nI V) a = some σ1 ∧ EqBut σ σ1 407 ∧ TRm v b T (σ1 407) 0 := by
    intro V
    induction V with
    | zero =>
      intro fuel a hf _ p1 p2
      obtain ⟨fuel, rfl⟩ : ∃ z, fuel = z + 1 := ⟨fuel - 1, by omega⟩
      exact ⟨a, by rw [X12_roadsOf_6, if_pos (show nI 0 ≤ 0 by decide)], p1, p2⟩
    | succ V ih =>
      intro fuel a hf hV p1 p2
      obtain ⟨fuel, rfl⟩ : ∃ z, fuel = z + 1 := ⟨fuel - 1, by omega⟩
      have ih := fun a => ih fuel a (by omega) (by omega)
      rw [X12_roadsOf_6, if_neg (show ¬ nI (V + 1) ≤ 0 from nI_ge (a := 0) (by omega) (by omega)), show (0 : Int32) = nI 0 from rfl]
      refine loop_P (L := fun f (a : Mem) i => X12_roadsOf_12 (X12_roadsOf_6 fuel) f (nI T) (nI (V + 1)) i a) (P := fun i a => EqBut σ a 407 ∧ TRm v b T (a 407) (V + 1) ∧ ∀ x, x < i → a 407 (9 * (V + 1) + x) = nI (v.F (Rm v.n b T (V + 1)) (b x))) (Q := fun r => ∃ σ1, r = some σ1 ∧ EqBut σ σ1 407 ∧ TRm v b T (σ1 407) 0) (n := T) (a := a) (fun f a hPa => ?_) (fun f a i hi hPa => Or.inr ?_) (Nat.zero_le _) (FUb (by omega)) ⟨p1, p2, fun x h => by omega⟩
      · obtain ⟨q1, q2, q3⟩ := hPa
        rw [X12_roadsOf_12, if_pos (nI_le (Nat.le_refl _) (by omega)), show nI (V + 1) + -1 = nI V from nI_m1p (by omega)]
        refine ih a q1 fun V2 h1 h2 x hx => ?_
        by_cases c : V2 = V + 1
        · rw [c]; exact q3 x hx
        · exact q2 V2 (by omega) h2 x hx
      · obtain ⟨q1, q2, q3⟩ := hPa
        have hb1 : Byts a T b := hb.move (q1 3 (by decide)) (q1 404 (by decide))
        have F1 : FT v (a 406) v.n 0 := by rw [q1 406 (by decide)]; exact hF
        refine ⟨st a 407 (9 * (V + 1) + i) (nI (v.F (Rm v.n b T (V + 1)) (b i))), ?_, fun c hc => by rw [st_n hc, q1 c hc], fun V2 h1 h2 x hx => by rw [st_at' (by omega), q2 V2 h1 h2 x hx], fun x hx => ?_⟩
        · have k := m_road38 (rc6 := X12_roadsOf_6 fuel) (rc12 := X12_roadsOf_12 (X12_roadsOf_6 fuel) f) h9 hb1 hn hT F1 (V := V + 1) (by omega) hV q2 hi
          rw [X12_roadsOf_12, if_neg (nI_ge hi (by omega)), al]
          unfold X12_roadsOf_33
          by_cases c : V + 1 = 2 ^ T - 1
          · rw [if_pos (show nI (V + 1) = nI (2 ^ T - 1) by rw [c])]
            rw [if_pos c] at k
            exact k
          · rw [if_neg (fun z => c (nI_inj (by omega) (by omega) z))]
            rw [if_neg c] at k
            exact k
        · by_cases c : x = i
          · rw [c, st_at]
          · rw [st_at' (by omega), q3 x (by omega)]
  exact key (2 ^ T - 1) FU σ (by have : FU = 100000 := rfl; omega) (by omega) (fun _ _ => rfl) fun V2 h1 h2 => by omega
/-- how the reference begins -/
def Beg (b h : Nat → Nat) (m x5 : Nat) (i : Nat) : Prop := (m = INF ∧ x5 = 9) ∨ (m < INF ∧ x5 < 9 ∧ (∃ k, k < i ∧ b k = x5 ∧ h k = m) ∧ ∀ k, k < i → h k = m → x5 ≤ b k)
theorem m_140 (W : WF v) (M : SM (σ 400) v) (hb : Byts σ T b) (hn : okA v.n b T = true) (hT : T ≤ 8) (hT0 : 0 < T) (hF : FT v (σ 406) v.n 0) (hR : TRm v b T (σ 407) 0) {w : Nat} (hw : w < v.k) {y : Int32} : X12_round_140 FU (nI w) y (nI T) 2000000000 9 0 σ = some (v.rnd (Rm v.n b T 0) (v.pl w) y, σ) := by
  have h9 := W.n9
  have h6 := W.k6
  have hp := pow8 T hT
  have p9 := pow9_ v.n h9
  have hI : INF = 2000000000 := rfl
  have hpl := W.pl w hw
  have hl := Rm_lt (n := v.n) (b := b) (T := T) (V := 0)
  generalize hD : Rm v.n b T 0 = D at hl
  let h : Nat → Nat := fun i => v.hq D (v.pl w) (b i)
  have hh : ∀ i, h i ≤ INF := fun i => hq_INF (by omega) _
  have hmem : ∀ q, D.testBit q = true ↔ ∃ t, t < T ∧ b t = q := by
    intro q
    rw [← hD, Rm_t hn]
    constructor
    · rintro ⟨t, a, -, c⟩; exact ⟨t, a, c⟩
    · rintro ⟨t, a, c⟩; exact ⟨t, a, Nat.zero_testBit _, c⟩
  have hD0 : 0 < D := by rw [← hD]; exact Rm_pos (x := 0) hn hT0 (Nat.zero_testBit _)
  have hmin : mA h (fun _ => true) INF T = v.F D (v.pl w) := by
    rw [F_s hD0]
    apply mA_uniq
    · intro q q1 _
      exact ⟨b q, Nat.lt_of_lt_of_le (okA_n hn q1) h9, (hmem _).mpr ⟨q, q1, rfl⟩, rfl⟩
    · intro r r1 r2
      obtain ⟨t, t1, t2⟩ := (hmem r).mp r2
      exact ⟨t, t1, rfl, by rw [← t2]⟩
  rw [inf_I, show (9 : Int32) = nI 9 from rfl, show (0 : Int32) = nI 0 from rfl]
  refine loop_P (L := fun f (a : Nat × Nat) i => X12_round_140 f (nI w) y (nI T) (nI a.1) (nI a.2) i σ) (P := fun i a => a.1 = mA h (fun _ => true) INF i ∧ Beg b h a.1 a.2 i) (Q := fun r => r = some (v.rnd D (v.pl w) y, σ)) (n := T) (a := (INF, 9)) (fun f a hPa => ?_) (fun f a i hi hPa => Or.inr ?_) (Nat.zero_le _) (FUb (by omega)) ⟨rfl, Or.inl ⟨rfl, rfl⟩⟩
  · obtain ⟨m, x5⟩ := a
    obtain ⟨p1, p2⟩ := hPa
    dsimp only at p1 p2 ⊢
    rw [hmin] at p1
    have hle : m ≤ INF := by rw [p1]; exact F_le
    unfold View.rnd
    rw [X12_round_140, if_pos (nI_le (Nat.le_refl _) (by omega)), inf_I, ← p1]
    by_cases c : m = INF
    · rw [if_pos (by rw [c]), if_pos c]
    · rw [if_neg (fun z => c (nI_inj (by omega) (by omega) z)), if_neg c]
      by_cases d : y = 0
      · rw [if_pos d, if_pos d]
      · rw [if_neg d, if_neg d]
        rcases p2 with q | ⟨-, q2, ⟨k, k1, k2, k3⟩, q4⟩
        · exact absurd q.1 c
        · have : fs (fun q => D.testBit q && decide (v.hq D (v.pl w) q = m)) 0 9 = some x5 := by
            cases hf : fs (fun q => D.testBit q && decide (v.hq D (v.pl w) q = m)) 0 9 with
            | none =>
              have := fs_none 9 0 hf x5 (Nat.zero_le _) (by omega)
              rw [(hmem x5).mpr ⟨k, k1, k2⟩, decide_eq_true (show v.hq D (v.pl w) x5 = m by rw [← k2]; exact k3)] at this
              cases this
            | some z =>
              obtain ⟨z1, z2, z3, z4⟩ := fs_some 9 0 z hf
              rw [Bool.and_eq_true, decide_eq_true_eq] at z3
              obtain ⟨t, t1, t2⟩ := (hmem z).mp z3.1
              have ge : x5 ≤ z := by rw [← t2]; exact q4 t t1 (by show v.hq D (v.pl w) (b t) = m; rw [t2]; exact z3.2)
              by_cases lt : x5 < z
              · have := z4 x5 (Nat.zero_le _) lt
                rw [(hmem x5).mpr ⟨k, k1, k2⟩, decide_eq_true (show v.hq D (v.pl w) x5 = m by rw [← k2]; exact k3)] at this
                cases this
              · rw [show x5 = z by omega]
          rw [this]; rfl
  · obtain ⟨m, x5⟩ := a
    obtain ⟨p1, p2⟩ := hPa
    dsimp only at p1 p2 ⊢
    have hle : m ≤ INF := by rw [p1]; exact mA_a
    have hx5 : x5 ≤ 9 := by rcases p2 with q | ⟨-, q, -⟩ <;> omega
    have hbi := okA_n hn hi
    have hpi := Nat.two_pow_pos i
    have w1 := vb_ 0 (by omega) i (by omega) (Nat.zero_testBit _)
    have hlt : 2 ^ i < 2 ^ T := Nat.pow_lt_pow_right (by decide) hi
    have hr0 : σ 407 (9 * (0 + 2 ^ i) + i) = nI (v.F (rm D (b i)) (b i)) := by
      rw [hR (0 + 2 ^ i) (by omega) (by omega) i hi, ← hD, Rm_rm h9 hn hT (by omega) hi (Nat.zero_testBit _)]
    have hg : X12_goesBy σ (nI (v.pl w)) (nI i) ((1 : Int32) <<< (nI i &&& 31)) = some (nI (h i)) := by
      rw [show (1 : Int32) <<< (nI i &&& 31) = nI (0 + 2 ^ i) from (by rw [← w1.1]; exact (show nI 0 ||| bitv i = bitv i from by rw [Int32.or_comm]; exact or_0).symm)]
      exact m_goBy hb (by omega) hF h9 hpl hi hbi (by omega) w1.2.1 hr0 F_le
    have hri := hh i
    rw [X12_round_140, if_neg (nI_ge hi (by omega)), show (0 : Int32) = nI 0 from rfl, o_pl W M hw, bd_s, hg, bd_s]
    have e204 : ∀ q, X12_round_204 (X12_round_140 f) (nI w) y (nI T) (nI m) (nI q) (nI i) (nI (h i)) σ = X12_round_140 f (nI w) y (nI T) (nI (min m (h i))) (nI q) (nI (i + 1)) σ := by
      intro q
      unfold X12_round_204
      rw [min_I hle hri, bd_s, nI_1]
    have hm : min m (h i) = mA h (fun _ => true) INF (i + 1) := by rw [mA_s, if_pos rfl, ← p1]
    by_cases c1 : m ≤ h i
    · rw [if_pos (nI_le c1 (by omega))]
      unfold X12_round_175
      by_cases c2 : m < h i
      · rw [if_pos (nI_lt c2 (by omega)), e204]
        refine ⟨(min m (h i), x5), rfl, hm, ?_⟩
        dsimp only
        rw [Nat.min_eq_left c1]
        rcases p2 with q | ⟨a1, a2, ⟨k, k1, k2, k3⟩, a4⟩
        · omega
        · refine Or.inr ⟨a1, a2, ⟨k, by omega, k2, k3⟩, fun k hk hk2 => ?_⟩
          by_cases q : k = i
          · subst q; omega
          · exact a4 k (by omega) hk2
      · have e : h i = m := by omega
        rw [if_neg (nI_nlt (by omega) (by omega)), inf_I]
        by_cases c3 : INF ≤ h i
        · rw [if_pos (nI_le c3 (by omega)), e204]
          refine ⟨(min m (h i), x5), rfl, hm, ?_⟩
          dsimp only
          rw [Nat.min_eq_left c1]
          rcases p2 with q | q
          · exact Or.inl q
          · omega
        · rw [if_neg (nI_ge (by omega) (by omega)), m_byte hb (by omega) hi, bd_s, m_lesser (by omega) (by omega), bd_s, e204]
          refine ⟨(min m (h i), min x5 (b i)), rfl, hm, ?_⟩
          dsimp only
          rw [Nat.min_eq_left c1]
          rcases p2 with q | ⟨a1, a2, ⟨k, k1, k2, k3⟩, a4⟩
          · omega
          · refine Or.inr ⟨a1, by omega, ?_, fun k hk hk2 => ?_⟩
            · by_cases q : x5 ≤ b i
              · exact ⟨k, by omega, by rw [Nat.min_eq_left q]; exact k2, k3⟩
              · exact ⟨i, by omega, by rw [Nat.min_eq_right (by omega)], e⟩
            · by_cases q : k = i
              · subst q; exact Nat.min_le_right _ _
              · have := a4 k (by omega) hk2
                omega
    · rw [if_neg (nI_ge (by omega) (by omega))]
      unfold X12_round_175
      rw [if_neg (nI_nlt (by omega) (by omega)), inf_I, if_neg (nI_ge (by omega) (by omega)), m_byte hb (by omega) hi, bd_s, show (9 : Int32) = nI 9 from rfl, m_lesser (by omega) (by omega), bd_s, e204]
      refine ⟨(min m (h i), min 9 (b i)), rfl, hm, ?_⟩
      dsimp only
      rw [Nat.min_eq_right (show h i ≤ m by omega), Nat.min_eq_right (show b i ≤ 9 by omega)]
      refine Or.inr ⟨by omega, by omega, ⟨i, by omega, rfl, rfl⟩, fun k hk hk2 => ?_⟩
      by_cases q : k = i
      · subst q; omega
      · have := mA_le (h := h) (S := fun _ => true) (a := INF) (m := i) (q := k) (by omega) rfl
        omega
theorem m_rnd65 (W : WF v) (M : SM (σ 400) v) (hb : Byts σ T b) (hn : okA v.n b T = true) (hT : T ≤ 8) (hT0 : 0 < T) {w : Nat} (hw : w < v.k) {y : Int32} : ∃ σ1, X12_round_65 FU (nI w) y (nI T) 0 σ = some (v.rnd (Rm v.n b T 0) (v.pl w) y, σ1) ∧ ∀ c, c ≠ 406 → c ≠ 407 → σ1 c = σ c := by
  have h9 := W.n9
  rw [show (0 : Int32) = nI 0 from rfl]
  refine loop_P (L := fun f (a : Mem) i => X12_round_65 f (nI w) y (nI T) i a) (P := fun i a => EqBut σ a 406 ∧ FT v (a 406) i 0) (Q := fun r => ∃ σ1, r = some (v.rnd (Rm v.n b T 0) (v.pl w) y, σ1) ∧ ∀ c, c ≠ 406 → c ≠ 407 → σ1 c = σ c) (n := v.n) (a := σ) (fun f a hP => ?_) (fun f a i hi hP => Or.inr ?_) (Nat.zero_le _) (FUb (by omega)) ⟨fun _ _ => rfl, fun p q _ _ h => by omega⟩
  · have M1 : SM (a 400) v := by rw [hP.1 400 (by decide)]; exact M
    have hb1 : Byts a T b := hb.move (hP.1 3 (by decide)) (hP.1 404 (by decide))
    obtain ⟨σ1, r1, r2, r3⟩ := m_roads h9 hb1 hn hT hP.2
    have M2 : SM (σ1 400) v := by rw [r2 400 (by decide)]; exact M1
    have hb2 : Byts σ1 T b := hb1.move (r2 3 (by decide)) (r2 404 (by decide))
    refine ⟨σ1, ?_, fun c h1 h2 => by rw [r2 c h2, hP.1 c h1]⟩
    rw [X12_round_65, show (3 : Int32) = nI 3 from rfl, a_n M1, bd_s, if_pos (nI_le (Nat.le_refl _) (by omega)), r1, bd_s]
    exact m_140 W M2 hb2 hn hT hT0 (by rw [r2 406 (by decide)]; exact hP.2) r3 hw
  · have M1 : SM (a 400) v := by rw [hP.1 400 (by decide)]; exact M
    have key : ∃ a', X12_round_79 (X12_round_65 f) FU (nI w) y (nI T) (nI i) (nI 0) a = X12_round_65 f (nI w) y (nI T) (nI (i + 1)) a' ∧ EqBut σ a' 406 ∧ FT v (a' 406) (i + 1) 0 := by
      refine loop_P (L := fun f2 (c : Mem) x => X12_round_79 (X12_round_65 f) f2 (nI w) y (nI T) (nI i) x c) (P := fun x c => EqBut σ c 406 ∧ FT v (c 406) i x) (Q := fun r => ∃ a', r = X12_round_65 f (nI w) y (nI T) (nI (i + 1)) a' ∧ EqBut σ a' 406 ∧ FT v (a' 406) (i + 1) 0) (n := v.n) (a := a) (fun f2 c hc => ?_) (fun f2 c x hx hc => Or.inr ?_) (Nat.zero_le _) (FUb (by omega)) hP
      · have M2 : SM (c 400) v := by rw [hc.1 400 (by decide)]; exact M
        exact ⟨c, by rw [X12_round_79, show (3 : Int32) = nI 3 from rfl, a_n M2, bd_s, if_pos (nI_le (Nat.le_refl _) (by omega)), nI_1], hc.1, ft_row hc.2⟩
      · have M2 : SM (c 400) v := by rw [hc.1 400 (by decide)]; exact M
        refine ⟨st c 406 (9 * i + x) (oI (v.far i x)), ?_, fun k hk => by rw [st_n hk, hc.1 k hk], fun p q hp hq h => ?_⟩
        · rw [X12_round_79, show (3 : Int32) = nI 3 from rfl, a_n M2, bd_s, if_neg (nI_ge hx (by omega)), m_far W M2 hi hx, bd_s, show (9 : Int32) = nI 9 from rfl, nI_mul, nI_add, au_nI (by rw [ln406]; omega) (by omega), bd_s, nI_1]
        · by_cases d : p = i ∧ q = x
          · rw [d.1, d.2, st_at]
          · rw [st_at' (by omega)]; exact hc.2 p q hp hq (by omega)
    obtain ⟨a', k1, k2⟩ := key
    exact ⟨a', by rw [X12_round_65, show (3 : Int32) = nI 3 from rfl, a_n M1, bd_s, if_neg (nI_ge hi (by omega)), show (0 : Int32) = nI 0 from rfl, k1], k2⟩
theorem c_23 (hC : Core (1000 * j) σ v L) (hR : Rest (1000 * j) σ v.txt) : ∀ y2 : Int32, ∃ σ3, (bd2 (L_round x1 y2 σ) fun r1 τ1 => bd2 (X12_round x1 y2 τ1) fun r2 τ2 => bd (X12_thrown τ2) fun r3 => if r3 = r1 then (if r1 = 0 then (if (lg_cmp ((τ2 411 0).toInt64) r2.toInt64) = 0 then some (true, τ2) else some (false, τ2)) else some (true, τ2)) else some (false, τ2)) = some (true, σ3) ∧ Inv (j + 1) σ3 := by
  intro y2
  obtain ⟨W, R, M, K, KT, Kl⟩ := id hC
  have h9 := W.n9
  have h6 := W.k6
  obtain ⟨T, b, t1, t2, t3, t4⟩ := hR.2.1.byts
  have R1 : SC (st σ 1 1 0) 9 v (1000 * j) := R.move fun c c1 c2 => st_n (by omega)
  have b1 : Byts (st σ 1 1 0) T b := t4.move (st_n (by decide)) (st_n (by decide))
  have hMis : Mis (st σ 1 1 0) := ⟨fun i hi => by rw [st_n (by decide)]; exact hR.2.2.2.2.1 i hi, by rw [st_n (by decide)]; exact hR.2.2.2.2.2⟩
  have thr : ∀ k : Int32, k ≠ 0 → L_round x1 y2 σ = some (k, st σ 1 1 0) → X12_round x1 y2 (st σ 1 1 0) = some (nI 0, st (st (st σ 1 1 0) 399 8 0) 399 0 k) → ∃ σ3, (bd2 (L_round x1 y2 σ) fun r1 τ1 => bd2 (X12_round x1 y2 τ1) fun r2 τ2 => bd (X12_thrown τ2) fun r3 => if r3 = r1 then (if r1 = 0 then (if (lg_cmp ((τ2 411 0).toInt64) r2.toInt64) = 0 then some (true, τ2) else some (false, τ2)) else some (true, τ2)) else some (false, τ2)) = some (true, σ3) ∧ Inv (j + 1) σ3 := by
    intro k hk hA hB
    refine roadI (Bf := fun τ => X12_round x1 y2 τ) hA hB st_at (fun h => absurd h hk) (use_inv hC hR (fun c hc => st_n (by omega)) hMis st_at (st_at' (by decide)) (fun c hc => by rw [st_n (by omega), st_n (by omega)]) (fun i hi => by rw [st_at' (by omega), st_at' (by omega)]) ?_ (by rw [st_at' (by decide), st_at]; rfl) (by rw [st_n (by decide), st_n (by decide)]))
    refine BO.th ?_
    unfold BO
    rw [st_at' (by decide), st_at' (by decide), st_n (by decide)]
    exact hR.1
  have g8 : (st σ 1 1 0) 399 8 = nI T := by rw [st_n (by decide)]; exact t3
  have M0 : SM ((st (st σ 1 1 0) 399 8 0) 400) v := by rw [st_n (by decide), st_n (by decide)]; exact M
  have b0 : Byts (st (st σ 1 1 0) 399 8 0) T b := b1.move (st_n (by decide)) (st_n (by decide))
  by_cases c1 : isP v.k x1 = true
  · obtain ⟨w, w1, rfl⟩ := isP_t (by omega) c1
    have hpl := W.pl w w1
    cases ct : toldB v.n b T with
    | false =>
      refine thr (nI 2) n2 ?_ ?_
      · unfold L_round X11_round X10_useUp
        rw [pu_s, bd_s, bd2_s, e_needWalker R1, if_pos c1, bdx_l, t2, e_told W R1 b1 t1, ct, if_neg (by decide), bd_s, if_pos rfl, bdx2_r]
        rfl
      · unfold X12_round X12_round_36
        rw [pu_s, bd_s, m_isWalker W M0, c1, bd_s, if_neg (show ¬ b2i true = 0 by decide), g8, m_told W M0 b0 t1, ct, bd_s, if_pos (show b2i false = 0 from rfl), pu_s, bd_s, st_at, if_neg (by decide)]
        rfl
    | true =>
      have ct2 : T ≤ 8 ∧ okA v.n b T = true := by
        unfold toldB at ct
        rw [Bool.and_eq_true, decide_eq_true_eq] at ct
        exact ct
      obtain ⟨c8, hok⟩ := ct2
      have hl := Rm_lt (n := v.n) (b := b) (T := T) (V := 0)
      have p9 := pow9_ v.n h9
      have hDn : ∀ q, q < 9 → (Rm v.n b T 0).testBit q = true → q < v.n := fun q _ h => by
        obtain ⟨t, q1, -, q3⟩ := (Rm_t hok).mp h
        rw [← q3]; exact okA_n hok q1
      have hmask : mkB (inB b T) v.n = nI (Rm v.n b T 0) := by
        unfold Rm
        rw [setN_nI (by omega)]
        refine mk_congr fun p _ => ?_
        unfold inB
        congr 1
        funext t
        rw [Nat.zero_testBit]; rfl
      have hnm : ¬ nI (Rm v.n b T 0) = -1 := nI_m1 (by omega)
      obtain ⟨τ, a1, a2, a3⟩ := e_rs W R1 hpl (D := Rm v.n b T 0) (by omega) hDn hMis
      have hA : L_round (nI w) y2 σ = some (nI 0, st τ 411 0 (v.rnd (Rm v.n b T 0) (v.pl w) y2)) := by
        unfold L_round X11_round X10_useUp
        rw [pu_s, bd_s, bd2_s, e_needWalker R1, if_pos c1, bdx_l, t2, e_told W R1 b1 t1, ct, if_pos rfl, bd_s, hmask, if_neg hnm, show X6_get (st σ 1 1 0) 18 (nI w) = _ from g_pl kd9' W R1 w1, bd_s, a1, bd2_s]
        unfold View.rnd
        by_cases cI : v.F (Rm v.n b T 0) (v.pl w) = INF
        · rw [if_pos cI, if_pos cI]
          by_cases d : y2 = 0
          · rw [if_pos d, bdx2_l]; rfl
          · rw [if_neg d, if_pos rfl, bdx2_l]; rfl
        · rw [if_neg cI, if_neg cI]
          by_cases d : y2 = 0
          · rw [if_pos d, if_pos d, bdx2_l]; rfl
          · obtain ⟨k1, k2, k3⟩ := a3 cI
            have hI : INF = 2000000000 := rfl
            have hle := F_le (v := v) (S := Rm v.n b T 0) (p := v.pl w)
            rw [if_neg d, if_neg d, if_neg (nI_m1 (by omega)), e_begin W hpl (by omega) k1 k2 k3 hle, bd_s, bdx2_l]; rfl
      generalize hρ : st τ 411 0 (v.rnd (Rm v.n b T 0) (v.pl w) y2) = ρ at hA
      have f : ∀ c, c ≠ 1 → c ≠ 389 → c ≠ 391 → c ≠ 411 → ρ c = σ c := fun c c1 c2 c3 c4 => by rw [← hρ, st_n c4, a2.1 c c2 c3, st_n c1]
      have f1 : ρ 1 = (st σ 1 1 0) 1 := by rw [← hρ, st_n (by decide), a2.1 1 (by decide) (by decide)]
      have M1 : SM (ρ 400) v := by rw [f 400 (by decide) (by decide) (by decide) (by decide)]; exact M
      have b2 : Byts ρ T b := t4.move (f 3 (by decide) (by decide) (by decide) (by decide)) (f 404 (by decide) (by decide) (by decide) (by decide))
      have e399 : ρ 399 = σ 399 := f 399 (by decide) (by decide) (by decide) (by decide)
      have fin : ∀ σ2, X12_round (nI w) y2 ρ = some (v.rnd (Rm v.n b T 0) (v.pl w) y2, σ2) → (∀ c, c ≠ 399 → c ≠ 406 → c ≠ 407 → σ2 c = ρ c) → σ2 399 = (st (st ρ 399 8 0) 399 0 (nI 0)) 399 → ∃ σ3, (bd2 (L_round (nI w) y2 σ) fun r1 τ1 => bd2 (X12_round (nI w) y2 τ1) fun r2 τ2 => bd (X12_thrown τ2) fun r3 => if r3 = r1 then (if r1 = 0 then (if (lg_cmp ((τ2 411 0).toInt64) r2.toInt64) = 0 then some (true, τ2) else some (false, τ2)) else some (true, τ2)) else some (false, τ2)) = some (true, σ3) ∧ Inv (j + 1) σ3 := by
        intro σ2 hB g1 g2
        refine roadI (Bf := fun τ => X12_round (nI w) y2 τ) hA hB (by rw [g2, st_at]) (fun _ => by rw [g1 411 (by decide) (by decide) (by decide), ← hρ, st_at]) (use_inv hC hR (σ1 := ρ) (fun c hc => f c (by omega) (by omega) (by omega) (by omega)) ?_ (by rw [f1, st_at]; rfl) (by rw [f1, st_at' (by decide)]) (fun c hc => g1 c (by omega) (by omega) (by omega)) (fun i hi => by rw [g2, st_at' (by omega), st_at' (by omega)]) ?_ (by rw [g2, st_at' (by decide), st_at]; rfl) (g1 400 (by decide) (by decide) (by decide)))
        · exact ⟨fun i hi => by rw [← hρ, st_n (by decide)]; exact a2.2 i hi, by rw [f 398 (by decide) (by decide) (by decide) (by decide)]; exact hR.2.2.2.2.2⟩
        · unfold BO
          rw [g2, st_at' (by decide), st_at' (by decide), st_at' (by decide), st_at' (by decide), e399]
          exact hR.1
      have M2 : SM ((st ρ 399 8 0) 400) v := by rw [st_n (by decide)]; exact M1
      have b3 : Byts (st ρ 399 8 0) T b := b2.move (st_n (by decide)) (st_n (by decide))
      have M3 : SM ((st (st ρ 399 8 0) 399 0 (nI 0)) 400) v := by rw [st_n (by decide)]; exact M2
      have b4 : Byts (st (st ρ 399 8 0) 399 0 (nI 0)) T b := b3.move (st_n (by decide)) (st_n (by decide))
      have go36 : X12_round (nI w) y2 ρ = X12_round_36 (nI w) y2 (nI T) 0 (st ρ 399 8 0) := by
        unfold X12_round
        rw [pu_s, bd_s, m_isWalker W M2, c1, bd_s, if_neg (show ¬ b2i true = 0 by decide), e399, t3, m_told W M2 b3 t1, ct, bd_s, if_neg (show ¬ b2i true = 0 by decide)]
      by_cases hT0 : 0 < T
      · obtain ⟨σ2, s1, s2⟩ := m_rnd65 W M3 b4 hok c8 hT0 w1 (y := y2)
        refine fin σ2 ?_ (fun c h1 h2 h3 => by rw [s2 c h2 h3, st_n h1, st_n h1]) (s2 399 (by decide) (by decide))
        rw [go36]
        unfold X12_round_36
        rw [pu_s, bd_s, st_at, if_pos (by decide), if_neg (show ¬ nI T = 0 from fun z => (by omega : ¬ T = 0) (nI_inj (b := 0) (by omega) (by omega) z))]
        exact s1
      · have hT00 : T = 0 := by omega
        refine fin (st (st ρ 399 8 0) 399 0 (nI 0)) ?_ (fun c h1 h2 h3 => by rw [st_n h1, st_n h1]) rfl
        rw [go36]
        unfold X12_round_36
        rw [pu_s, bd_s, st_at, if_pos (by decide), if_pos (show nI T = 0 by rw [hT00]; rfl)]
        have hD : Rm v.n b T 0 = 0 := by
          have := Rm_full (n := v.n) (b := b) hok c8
          rw [hT00] at this ⊢
          exact this
        have hF0 : v.F 0 (v.pl w) = 0 := F_0
        have hfs : fs (fun q => (0 : Nat).testBit q && decide (v.hq 0 (v.pl w) q = 0)) 0 9 = none := by
          cases hf : fs (fun q => (0 : Nat).testBit q && decide (v.hq 0 (v.pl w) q = 0)) 0 9 with
          | none => rfl
          | some z =>
            have := (fs_some 9 0 z hf).2.2.1
            rw [Nat.zero_testBit] at this
            cases this
        unfold View.rnd
        rw [hD, hF0, if_neg (show ¬ 0 = INF by decide), hfs]
        by_cases d : y2 = 0
        · rw [if_pos d, if_pos d]; rfl
        · rw [if_neg d, if_neg d]; rfl
  · rw [Bool.not_eq_true] at c1
    refine thr (nI 1) n0 ?_ ?_
    · unfold L_round X11_round X10_useUp
      rw [pu_s, bd_s, bd2_s, e_needWalker R1, c1, if_neg (by decide), bdx_r, bdx2_r]
      rfl
    · unfold X12_round X12_round_36
      rw [pu_s, bd_s, m_isWalker W M0, c1, bd_s, if_pos (show b2i false = 0 from rfl), pu_s, bd_s, st_at, if_neg (by decide)]
      rfl
theorem r_23 (hC : Core (1000 * j) σ v L) (hR : Rest (1000 * j) σ v.txt) : ∃ σ3, lw_23 x1 x2 x3 x4 x5 σ = some (true, σ3) ∧ Inv (j + 1) σ3 := by
  unfold lw_23
  by_cases d : x2 = 0
  · simp only [if_pos d]
    exact c_23 hC hR 0
  · simp only [if_neg d]
    exact c_23 hC hR 1
end ROUND3

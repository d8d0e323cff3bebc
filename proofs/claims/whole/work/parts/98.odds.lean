/-! odds -/
def nL (a : Nat) : Int64 := Int64.ofNat a
/-- the reference's sum, and the component's -/
def oddM (f k : Nat) : Nat → Nat → Nat
  | 0, c => if k ≤ c then 1 else 0
  | n + 1, c => (100 - f) * oddM f k n c + f * oddM f k n (c + 1)
def chs (n i : Nat) : Nat := iterN (fun v x => v * (n - x) / (x + 1)) 1 i
def oddC (f k n : Nat) : Nat := iterN (fun a d => a + chs n (k + d) * f ^ (k + d) * (100 - f) ^ (n - (k + d))) 0 (n + 1 - k)
theorem odd_eq : ∀ f, f ≤ 100 → ∀ n, n ≤ 6 → ∀ k, k ≤ 6 → oddC f k n = oddM f k n 0 := by decide +kernel
section ODDS
theorem nL_mul (a b : Nat) : nL a * nL b = nL (a * b) := by
  unfold nL
  exact (Int64.ofNat_mul a b).symm
theorem nL_add (a b : Nat) : nL a + nL b = nL (a + b) := by
  unfold nL
  exact (Int64.ofNat_add a b).symm
theorem nI_L : ∀ a, a ≤ 100 → (nI a).toInt64 = nL a := by decide +kernel
theorem smN_split {f : Nat → Nat} {a : Nat} : ∀ b, smN f (a + b) = smN f a + smN (fun i => f (a + i)) b := by
  intro b
  induction b with
  | zero => rfl
  | succ b ih => rw [show a + (b + 1) = a + b + 1 by omega, smN_s, ih, smN_s]; omega
theorem smN_mul {f : Nat → Nat} {g n : Nat} : smN (fun i => g * f i) n = g * smN f n := by
  induction n with
  | zero => rfl
  | succ n ih => rw [smN_s, smN_s, ih, Nat.mul_add]
/-- a set's likelihood -/
def prS (f S : Nat) : Nat → Nat := iterN (fun p x => p * (if S.testBit x = true then f else 100 - f)) 1
theorem prS_congr {f S T n : Nat} (h : ∀ x, x < n → S.testBit x = T.testBit x) : prS f S n = prS f T n := by
  induction n with
  | zero => rfl
  | succ n ih =>
    show prS f S n * _ = prS f T n * _
    rw [ih (fun x hx => h x (by omega)), h n (by omega)]
/-- the reference: sets counted through -/
theorem sets_sum (f k : Nat) : ∀ n c, smN (fun S => if k ≤ c + cntB S.testBit n then prS f S n else 0) (2 ^ n) = oddM f k n c := by
  intro n
  induction n with
  | zero => intro c; show 0 + (if k ≤ c + 0 then 1 else 0) = if k ≤ c then 1 else 0; simp
  | succ n ih =>
    intro c
    have hp : 2 ^ (n + 1) = 2 ^ n + 2 ^ n := by rw [Nat.pow_succ]; omega
    rw [hp, smN_split]
    show _ = (100 - f) * oddM f k n c + f * oddM f k n (c + 1)
    rw [← ih c, ← ih (c + 1), ← smN_mul, ← smN_mul]
    congr 1
    · apply smN_congr
      intro S hS
      have hb : S.testBit n = false := Nat.testBit_lt_two_pow hS
      rw [cntB, hb, if_neg (show ¬ (false = true) by decide), Nat.add_zero]
      by_cases ck : k ≤ c + cntB S.testBit n
      · rw [if_pos ck, if_pos ck]
        show prS f S n * (if S.testBit n = true then f else 100 - f) = _
        rw [hb, if_neg (by decide), Nat.mul_comm]
      · rw [if_neg ck, if_neg ck, Nat.mul_zero]
    · apply smN_congr
      intro S hS
      have hb : (2 ^ n + S).testBit n = true := by rw [Nat.testBit_two_pow_add_eq, Nat.testBit_lt_two_pow hS]; rfl
      have hl : ∀ x, x < n → (2 ^ n + S).testBit x = S.testBit x := fun x hx => Nat.testBit_two_pow_add_gt hx S
      rw [cntB, hb, if_pos rfl, cntB_congr hl, show c + (cntB S.testBit n + 1) = c + 1 + cntB S.testBit n by omega]
      by_cases ck : k ≤ c + 1 + cntB S.testBit n
      · rw [if_pos ck, if_pos ck]
        show prS f (2 ^ n + S) n * (if (2 ^ n + S).testBit n = true then f else 100 - f) = _
        rw [hb, if_pos rfl, prS_congr hl, Nat.mul_comm]
      · rw [if_neg ck, if_neg ck, Nat.mul_zero]
/-- what is answered of the sum -/
def ansO (n t : Nat) : Int32 := ((nL t * (10000 : Int64)) / nL (100 ^ n)).toInt32
variable {σ : Mem} {v : View} {L : Lw} {j : Nat} {x1 x2 x3 x4 x5 : Int32}
theorem m_odds (W : WF v) (M : SM (σ 400) v) {n k : Nat} (hn : n ≤ 6) (hk : k ≤ 6) : X12_odds_46 FU (nI n) (nI k) 0 1 0 σ = some (ansO n (oddM v.fog k n 0), σ) := by
  have hf := W.fog
  have p6 : ∀ n, n ≤ 6 → 2 ^ n ≤ 64 ∧ gzl (nL (100 ^ n)) = some () ∧ 1 ≤ 2 ^ n := by decide +kernel
  obtain ⟨p1, p2, p3⟩ := p6 n hn
  have pb : bitv n = nI (2 ^ n) := bit_pow_ n (by omega)
  have sets : X12_odds_69 FU (nI n) (nI k) 0 (nL (100 ^ n)) 0 σ = some (ansO n (oddM v.fog k n 0), σ) := by
    rw [show (0 : Int32) = nI 0 from rfl]
    refine loop_P (L := fun f (a : Int64) i => X12_odds_69 f (nI n) (nI k) a (nL (100 ^ n)) i σ) (P := fun i a => a = nL (smN (fun S => if k ≤ 0 + cntB S.testBit n then prS v.fog S n else 0) i)) (Q := fun r => r = some (ansO n (oddM v.fog k n 0), σ)) (n := 2 ^ n) (a := 0) (fun f a hP => ?_) (fun f a S hS hP => Or.inr ⟨nL (smN (fun S => if k ≤ 0 + cntB S.testBit n then prS v.fog S n else 0) (S + 1)), ?_, rfl⟩) (Nat.zero_le _) (FUb (by omega)) rfl
    · rw [X12_odds_69, show (1 : Int32) <<< (nI n &&& 31) = bitv n from rfl, pb, if_pos (nI_le (Nat.le_refl _) (by omega)), p2, bd_s, hP, sets_sum, Int64.mul_comm]
      rfl
    · have hcn := cntB_le (f := S.testBit) (n := n)
      rw [X12_odds_69, show (1 : Int32) <<< (nI n &&& 31) = bitv n from rfl, pb, if_neg (nI_ge hS (by omega)), nI_mk (n := n) (by omega) hS, m_bits (by omega), bd_s, ← nI_mk (n := n) (by omega) hS]
      have run : ∀ b : Nat, X12_odds_91 (X12_odds_69 f) (nI n) (nI k) a (nL (100 ^ n)) (nI S) (nL b) σ = X12_odds_69 f (nI n) (nI k) (a + nL (b * prS v.fog S n)) (nL (100 ^ n)) (nI (S + 1)) σ := by
        intro b
        unfold X12_odds_91
        rw [show (0 : Int32) = nI 0 from rfl]
        refine loop_P (L := fun f2 (q : Int64) x => X12_odds_96 (X12_odds_69 f) f2 (nI n) (nI k) a (nL (100 ^ n)) (nI S) q x σ) (P := fun x q => q = nL (b * prS v.fog S x)) (Q := fun r => r = X12_odds_69 f (nI n) (nI k) (a + nL (b * prS v.fog S n)) (nL (100 ^ n)) (nI (S + 1)) σ) (n := n) (a := nL b) (fun f2 q hq => ?_) (fun f2 q x hx hq => Or.inr ⟨nL (b * prS v.fog S (x + 1)), ?_, rfl⟩) (Nat.zero_le _) (FUb (by omega)) (by show nL b = nL (b * 1); rw [Nat.mul_one])
        · rw [X12_odds_96, if_pos (nI_le (Nat.le_refl _) (by omega)), hq, nI_1]
        · have hs : prS v.fog S (x + 1) = prS v.fog S x * (if S.testBit x = true then v.fog else 100 - v.fog) := rfl
          rw [X12_odds_96, if_neg (nI_ge hx (by omega)), e_isOf, hb_nI (by omega) (by omega), bd_s, show (7 : Int32) = nI 7 from rfl, a_fog M, bd_s, bd_s]
          unfold X12_odds_136
          rw [nI_1, hs, ← Nat.mul_assoc, ← nL_mul, hq]
          cases hbt : S.testBit x with
          | true => rw [if_neg (show ¬ b2i true = 0 by decide), if_pos rfl, nI_L _ hf]
          | false => rw [if_pos (show b2i false = 0 from rfl), if_neg (by decide), show (100 : Int32) = nI 100 from rfl, nI_subN hf, nI_L _ (by omega)]
      by_cases ck : k ≤ cntB S.testBit n
      · rw [if_pos (nI_le ck (by omega)), show (1 : Int64) = nL 1 from rfl, run 1, hP, nL_add, Nat.one_mul, smN_s, if_pos (show k ≤ 0 + cntB S.testBit n by omega)]
      · have ck2 : cntB S.testBit n < k := by omega
        rw [if_neg (show ¬ nI k ≤ nI (cntB S.testBit n) from nI_ge ck2 (by omega)), show (0 : Int64) = nL 0 from rfl, run 0, hP, nL_add, Nat.zero_mul, smN_s, if_neg (show ¬ k ≤ 0 + cntB S.testBit n from by omega)]
  rw [show (0 : Int32) = nI 0 from rfl]
  refine loop_P (L := fun f (a : Int64) i => X12_odds_46 f (nI n) (nI k) 0 a i σ) (P := fun i a => a = nL (100 ^ i)) (Q := fun r => r = some (ansO n (oddM v.fog k n 0), σ)) (n := n) (a := 1) (fun f a hP => ?_) (fun f a i hi hP => Or.inr ⟨nL (100 ^ (i + 1)), ?_, rfl⟩) (Nat.zero_le _) (FUb (by omega)) rfl
  · rw [X12_odds_46, if_pos (nI_le (Nat.le_refl _) (by omega)), hP]
    exact sets
  · rw [X12_odds_46, if_neg (nI_ge hi (by omega)), hP, nI_1, show (100 : Int64) = nL 100 from rfl, nL_mul, Nat.pow_succ]
theorem e_pow {x n : Nat} (hx : x ≤ 100) (hn : n ≤ 6) : X0_power σ (nI x) (nI n) = some (nL (x ^ n)) := by
  unfold X0_power
  rw [show (0 : Int32) = nI 0 from rfl]
  refine loop_P (L := fun f (a : Int64) i => X0_power_5 σ f (nI x) (nI n) a i) (P := fun i a => a = nL (x ^ i)) (Q := fun r => r = some (nL (x ^ n))) (n := n) (a := 1) (fun f a hP => ?_) (fun f a i hi hP => Or.inr ⟨nL (x ^ (i + 1)), ?_, rfl⟩) (Nat.zero_le _) (FUb (by omega)) rfl
  · rw [X0_power_5, if_pos (nI_le (Nat.le_refl _) (by omega)), hP]
  · rw [X0_power_5, if_neg (nI_ge hi (by omega)), hP, nI_1, nI_L _ hx, nL_mul, Nat.pow_succ]
theorem chs_L : ∀ n, n ≤ 6 → ∀ x, x < n → gzl ((nI (x + 1)).toInt64) = some () ∧ (nL (chs n x) * (nI (n - x)).toInt64) / (nI (x + 1)).toInt64 = nL (chs n (x + 1)) := by decide +kernel
theorem e_odds {f n k : Nat} (hf : f ≤ 100) (hn : n ≤ 6) (hk : k ≤ 6) : X0_mistOdds σ (nI f) (nI n) (nI k) = some (ansO n (oddC f k n)) := by
  have p6 : ∀ n, n ≤ 6 → gzl (nL (100 ^ n)) = some () ∧ 0 < lg_cmp (nL (100 ^ n)) 0 := by decide +kernel
  obtain ⟨p1, p2⟩ := p6 n hn
  have key : ∀ (m d fuel : Nat) (a : Int64), k + d + m = max k (n + 1) → m < fuel → a = nL (smN (fun d => chs n (k + d) * f ^ (k + d) * (100 - f) ^ (n - (k + d))) d) → X0_mistOdds_6 σ fuel (nI f) (nI n) a (nI (k + d)) = some (ansO n (smN (fun d => chs n (k + d) * f ^ (k + d) * (100 - f) ^ (n - (k + d))) (d + m))) := by
    intro m
    induction m with
    | zero =>
      intro d fuel a hd hf2 ha
      obtain ⟨fuel, rfl⟩ : ∃ z, fuel = z + 1 := ⟨fuel - 1, by omega⟩
      rw [X0_mistOdds_6, if_pos (nI_lt (by omega) (by omega)), show (100 : Int32) = nI 100 from rfl, e_pow (by omega) hn, bd_s, if_pos p2, p1, bd_s, ha, Nat.add_zero]
      rfl
    | succ m ih =>
      intro d fuel a hd hf2 ha
      obtain ⟨fuel, rfl⟩ : ∃ z, fuel = z + 1 := ⟨fuel - 1, by omega⟩
      have hkd : k + d ≤ n := by omega
      rw [X0_mistOdds_6, if_neg (nI_nlt hkd (by omega)), show (0 : Int32) = nI 0 from rfl]
      have := ih (d + 1) fuel (a + nL (chs n (k + d) * f ^ (k + d) * (100 - f) ^ (n - (k + d)))) (by omega) (by omega) (by rw [ha, nL_add, smN_s])
      rw [show d + (m + 1) = d + 1 + m by omega, ← this]
      refine loop_P (L := fun f2 (q : Int64) x => X0_mistOdds_18 σ (X0_mistOdds_6 σ fuel) f2 (nI f) (nI n) a (nI (k + d)) q x) (P := fun x q => q = nL (chs n x)) (Q := fun r => r = X0_mistOdds_6 σ fuel (nI f) (nI n) (a + nL (chs n (k + d) * f ^ (k + d) * (100 - f) ^ (n - (k + d)))) (nI (k + (d + 1)))) (n := k + d) (a := 1) (fun f2 q hq => ?_) (fun f2 q x hx hq => Or.inr ⟨nL (chs n (x + 1)), ?_, rfl⟩) (Nat.zero_le _) (FUb (by omega)) rfl
      · rw [X0_mistOdds_18, if_pos (nI_le (Nat.le_refl _) (by omega)), e_pow hf (by omega), bd_s, show (100 : Int32) = nI 100 from rfl, nI_subN hf, nI_subN hkd, e_pow (by omega) (by omega), bd_s, hq, nL_mul, nL_mul, nI_1]
        rfl
      · obtain ⟨c1, c2⟩ := chs_L n hn x (by omega)
        rw [X0_mistOdds_18, if_neg (nI_ge hx (by omega)), nI_1, c1, bd_s, bd_s, nI_subN (by omega), hq, c2]
  have := key (max k (n + 1) - k) 0 FU 0 (by omega) (FUb (by omega)) rfl
  unfold X0_mistOdds
  rw [show nI k = nI (k + 0) from rfl, this, Nat.zero_add, show max k (n + 1) - k = n + 1 - k by omega]
  rfl
theorem r_37 (hC : Core (1000 * j) σ v L) (hR : Rest (1000 * j) σ v.txt) : ∃ σ3, lw_37 x1 x2 x3 x4 x5 σ = some (true, σ3) ∧ Inv (j + 1) σ3 := by
  obtain ⟨W, R, M, -⟩ := id hC
  by_cases c1 : isN (nI 0) (nI 6) x1 = true
  · obtain ⟨n, -, hn, rfl⟩ := isN_t (by omega) (by omega) c1
    by_cases c2 : isN (nI 0) (nI 6) x2 = true
    · obtain ⟨k, -, hk, rfl⟩ := isN_t (by omega) (by omega) c2
      refine rqM (σ1 := σ) hC hR (r := ansO n (oddC v.fog k n)) (FrC.refl hR.2.2.2.2) ?_ (fun ρ2 hρ M1 M2 hb => ?_)
      · unfold L_odds X11_odds
        rw [e_needNumber, if_pos (show isN 0 6 _ = true from c1), bdx_l, e_needNumber, if_pos (show isN 0 6 _ = true from c2), bdx_l, R.fog, e_odds W.fog hn hk, bd_s]
        rfl
      · unfold X12_odds X12_odds_26
        rw [m_isN, show isN 0 6 (nI n) = true from c1, bd_s, if_neg (show ¬ b2i true = 0 by decide), m_isN, show isN 0 6 (nI k) = true from c2, bd_s, if_neg (show ¬ b2i true = 0 by decide), pu_s, bd_s, st_at, if_pos (by decide), show st ρ2 399 0 0 = st ρ2 399 0 (nI 0) from rfl, m_odds W M2 hn hk, odd_eq _ W.fog n hn k hk]
        exact ⟨_, rfl, Ok.refl hb⟩
    · rw [Bool.not_eq_true] at c2
      refine rqT hC hR (k := nI 1) (r := nI 0) n0 ?_ ?_
      · unfold L_odds X11_odds
        rw [e_needNumber, if_pos (show isN 0 6 _ = true from c1), bdx_l, e_needNumber, show isN 0 6 x2 = false from c2, if_neg (by decide), bdx_r, bdx_r]
        exact hx_1
      · unfold X12_odds X12_odds_21 X12_odds_26
        rw [m_isN, show isN 0 6 (nI n) = true from c1, bd_s, if_neg (show ¬ b2i true = 0 by decide), m_isN, show isN 0 6 x2 = false from c2, bd_s, if_pos (show b2i false = 0 from rfl), pu_s, bd_s, st_at, if_neg (by decide)]
        rfl
  · rw [Bool.not_eq_true] at c1
    refine rqT hC hR (k := nI 1) (r := nI 0) n0 ?_ ?_
    · unfold L_odds X11_odds
      rw [e_needNumber, show isN 0 6 x1 = false from c1, if_neg (by decide), bdx_r, bdx_r]
      exact hx_1
    · unfold X12_odds X12_odds_21 X12_odds_26
      rw [m_isN, show isN 0 6 x1 = false from c1, bd_s, if_pos (show b2i false = 0 from rfl), pu_s, bd_s, st_at, if_neg (by decide)]
      rfl
end ODDS

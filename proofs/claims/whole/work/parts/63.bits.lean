/-! how many of a set; sets in the order of their numbers -/
def cntB (f : Nat → Bool) : Nat → Nat
  | 0 => 0
  | n + 1 => cntB f n + (if f n = true then 1 else 0)
theorem cntB_le {f : Nat → Bool} {n : Nat} : cntB f n ≤ n := by
  induction n with
  | zero => exact Nat.le_refl _
  | succ n ih => unfold cntB; split <;> omega
theorem cntB_congr {f g : Nat → Bool} {n : Nat} (h : ∀ i, i < n → f i = g i) : cntB f n = cntB g n := by
  induction n with
  | zero => rfl
  | succ n ih => unfold cntB; rw [ih (fun i hi => h i (by omega)), h n (by omega)]
theorem mkN_or_ : ∀ n, n < 10 → ∀ m, m < 2 ^ n → nI m ||| bitv n = nI (m + 2 ^ n) := by decide +kernel
theorem mkN {f : Nat → Bool} {n : Nat} (hn : n ≤ 10) : ∃ m, m < 2 ^ n ∧ mkB f n = nI m := by
  induction n with
  | zero => exact ⟨0, by decide, rfl⟩
  | succ n ih =>
    obtain ⟨m, h1, h2⟩ := ih (by omega)
    have e : 2 ^ (n + 1) = 2 * 2 ^ n := by rw [Nat.pow_succ, Nat.mul_comm]
    unfold mkB
    split
    · exact ⟨m + 2 ^ n, by omega, by rw [h2, mkN_or_ n (by omega) m h1]⟩
    · exact ⟨m, by omega, h2⟩
def bcI (x : Int32) : Int32 := (J6_bitCount_0f7a4 (fun _ _ => 0) x).getD 0
theorem bc_s {σ : Mem} {x : Int32} : J6_bitCount_0f7a4 σ x = some (bcI x) := rfl
theorem bc_or_ : ∀ n, n < 10 → ∀ m, m < 2 ^ n → bcI (nI m ||| bitv n) = bcI (nI m) + 1 := by decide +kernel
theorem e_bitCount {σ : Mem} {f : Nat → Bool} {n : Nat} (hn : n ≤ 10) : J6_bitCount_0f7a4 σ (mkB f n) = some (nI (cntB f n)) := by
  rw [bc_s]
  congr 1
  induction n with
  | zero => show bcI 0 = nI 0; decide +kernel
  | succ n ih =>
    obtain ⟨m, h1, h2⟩ := mkN (f := f) (n := n) (by omega)
    have ih := ih (by omega)
    unfold mkB cntB
    split
    · rename_i hf
      rw [h2, bc_or_ n (by omega) m h1, ← h2, ih, nI_1]
    · rename_i hf
      rw [ih]; rfl
theorem sr1_b {x : Int32} {k : Nat} : (x >>> (nI k &&& nI 31)) &&& nI 1 = b2i (hb x k) := by
  unfold hb
  rcases and1_01 (x >>> (nI k &&& 31)) with h | h
  · rw [show (nI 31) = (31 : Int32) from rfl, show nI 1 = (1 : Int32) from rfl, h]; rfl
  · rw [show (nI 31) = (31 : Int32) from rfl, show nI 1 = (1 : Int32) from rfl, h]; rfl
theorem iter_cnt {f : Nat → Bool} {n : Nat} : iterN (fun (a : Int32) k => a + b2i (f k)) (nI 0) n = nI (cntB f n) := by
  induction n with
  | zero => rfl
  | succ n ih =>
    rw [iterN, ih, show cntB f (n + 1) = cntB f n + (if f n = true then 1 else 0) from rfl]
    cases h : f n with
    | true => rw [show b2i true = nI 1 from rfl, nI_add, if_pos rfl]
    | false => rw [show b2i false = nI 0 from rfl, nI_add, if_neg (by decide)]
theorem cntB_cut {f : Nat → Bool} {n m : Nat} (h : n ≤ m) : cntB (fun i => decide (i < n) && f i) m = cntB f n := by
  induction m with
  | zero => rw [show n = 0 by omega]; rfl
  | succ m ih =>
    by_cases e : n = m + 1
    · subst e
      exact cntB_congr fun i hi => by rw [decide_eq_true hi, Bool.true_and]
    · rw [cntB, ih (by omega), decide_eq_false (by omega)]; rfl
theorem m_bits {σ : Mem} {f : Nat → Bool} {n : Nat} (hn : n ≤ 10) : X12_bits σ (mkB f n) = some (nI (cntB f n)) := by
  unfold X12_bits
  simp only [li0]
  have := loop_r (n := 31) (L := fun f2 a i => X12_bits_4 σ f2 (mkB f n) a i) (out := some) (g := fun a k => a + b2i (hb (mkB f n) k)) (fun f2 a => by simp -implicitDefEqProofs (disch := omega) only [X12_bits_4, Nat.le_refl, bd_s, bd2_s, bdx_l, bdx_r, bdx2_l, bdx2_r, pu_s, gb0, gb1, gb_b, li0, li1, li2, li3, li4, li5, li6, li7, li8, li9, li10, li11, li12, li13, li14, li15, li16, li17, li18, li19, li20, li21, li22, li23, li24, li25, li26, li27, li28, li29, li30, li31, li32, li39, li40, li41, li43, li47, li48, li57, li59, li60, li62, li63, li64, li81, li97, li99, li100, li122, li128, li152, li188, li189, li190, li191, li192, li255, li299, li380, li400, li488, li888, li999, li1000, li5368, li9999, neg1, b2i_z, b2i_o, b2i_e, b2i_t, b2i_f, oI_s, nI_on, on_nI, on_on, le_on, on_lt, on_le, lt_on, nI_leI, nI_ltI, nI_eq, nI_add, nI_mul, nI_subN, nI_subon, nI_addon, sh1, xorN, ite_true, ite_false, if_true, if_false, not_true_eq_false, not_false_eq_true, reduceCtorEq]) (fun f2 a i hi => by simp -implicitDefEqProofs (disch := omega) only [X12_bits_4, sr1_b, show ¬ 31 ≤ i by omega, bd_s, bd2_s, bdx_l, bdx_r, bdx2_l, bdx2_r, pu_s, gb0, gb1, gb_b, li0, li1, li2, li3, li4, li5, li6, li7, li8, li9, li10, li11, li12, li13, li14, li15, li16, li17, li18, li19, li20, li21, li22, li23, li24, li25, li26, li27, li28, li29, li30, li31, li32, li39, li40, li41, li43, li47, li48, li57, li59, li60, li62, li63, li64, li81, li97, li99, li100, li122, li128, li152, li188, li189, li190, li191, li192, li255, li299, li380, li400, li488, li888, li999, li1000, li5368, li9999, neg1, b2i_z, b2i_o, b2i_e, b2i_t, b2i_f, oI_s, nI_on, on_nI, on_on, le_on, on_lt, on_le, lt_on, nI_leI, nI_ltI, nI_eq, nI_add, nI_mul, nI_subN, nI_subon, nI_addon, sh1, xorN, ite_true, ite_false, if_true, if_false, not_true_eq_false, not_false_eq_true, reduceCtorEq]) (nI 0) (fuel := FU) (FUb (by omega))
  rw [this, iter_cnt]
  congr 2
  rw [← cntB_cut (n := n) (m := 31) (by omega)]
  exact cntB_congr fun i hi => hb_mk (by omega) (by omega)
theorem hb_nI {j i : Nat} (hj : j < 2 ^ 31) (hi : i < 32) : hb (nI j) i = j.testBit i := by
  rw [hb_lsb hi]
  show (BitVec.ofNat 32 j).getLsbD i = _
  rw [BitVec.getLsbD_ofNat, decide_eq_true hi, Bool.true_and]
theorem nI_mk {j n : Nat} (hn : n ≤ 30) (hj : j < 2 ^ n) : nI j = mkB (fun i => j.testBit i) n := ext32 fun i hi => by
  have : 2 ^ n ≤ 2 ^ 30 := Nat.pow_le_pow_right (by decide) hn
  rw [hb_nI (by omega) hi, hb_mk (by omega) hi]
  by_cases h : i < n
  · rw [decide_eq_true h, Bool.true_and]
  · rw [decide_eq_false h, Bool.false_and]
    exact Nat.testBit_lt_two_pow (Nat.lt_of_lt_of_le hj (Nat.pow_le_pow_right (by decide) (by omega)))
theorem bit_pow_ : ∀ n, n < 31 → bitv n = nI (2 ^ n) := by decide +kernel

/-! the fewest beats; the parts -/
noncomputable def View.dm (v : View) (S : Nat) : Bool := decide ((nI S ||| mkB (v.ar S.testBit) v.n) = mkB (fun _ => true) v.n)
noncomputable def View.bt (v : View) : Nat → Option Nat := iterN (fun a S => match a with
  | none => if v.dm S = true then some S else none
  | some x => if cntB S.testBit v.n < cntB x.testBit v.n then (if v.dm S = true then some S else some x) else some x) none
section BEATS
variable {σ σ1 σ2 : Mem} {v u : View} {L : Lw} {j e : Nat} {x1 x2 x3 x4 x5 : Int32}
theorem cnt_full {f : Nat → Bool} {n : Nat} (h : cntB f n = n) : ∀ i, i < n → f i = true := by
  induction n with
  | zero => intro i hi; omega
  | succ n ih =>
    intro i hi
    have hl := cntB_le (f := f) (n := n)
    rw [cntB] at h
    by_cases hf : f n = true
    · rw [if_pos hf] at h
      by_cases e : i = n
      · rw [e]; exact hf
      · exact ih (by omega) i (by omega)
    · rw [if_neg hf] at h; omega
theorem all_nI_ : ∀ n, n ≤ 9 → bitv n - 1 = nI (2 ^ n - 1) := by decide +kernel
theorem pow9_ : ∀ n, n ≤ 9 → 1 ≤ 2 ^ n ∧ 2 ^ n ≤ 512 := by decide +kernel
theorem set_nI {S n : Nat} (hn : n ≤ 9) (hS : S < 2 ^ n) : nI S = mkB S.testBit n := nI_mk (by omega) hS
theorem full_is {S n : Nat} (hn : n ≤ 9) (hS : S < 2 ^ n) (h : cntB S.testBit n = n) : S = 2 ^ n - 1 := by
  obtain ⟨p1, p2⟩ := pow9_ n hn
  have : nI S = nI (2 ^ n - 1) := by
    rw [set_nI hn hS, ← all_nI_ n hn, mk_all n (by omega)]
    exact mk_congr fun i hi => cnt_full h i hi
  exact nI_inj (by omega) (by omega) this
theorem cnt_tt (n : Nat) : cntB (fun _ => true) n = n := by
  induction n with
  | zero => rfl
  | succ n ih => rw [cntB, ih]; rfl
theorem all_cnt {n : Nat} (hn : n ≤ 9) : cntB (2 ^ n - 1).testBit n = n := by
  obtain ⟨p1, p2⟩ := pow9_ n hn
  have h : mkB (2 ^ n - 1).testBit n = mkB (fun _ => true) n := by
    rw [← set_nI hn (by omega), ← all_nI_ n hn, mk_all n (by omega)]
  have h := mk_inj (by omega) h
  rw [cntB_congr h, cnt_tt]
theorem bt_lt {i x : Nat} (h : v.bt i = some x) : x < i := by
  induction i generalizing x with
  | zero => cases h
  | succ i ih =>
    unfold View.bt at h ih
    rw [iterN] at h
    split at h
    · split at h
      · cases h; omega
      · cases h
    · rename_i y hy
      have := ih hy
      split at h
      · split at h
        · cases h; omega
        · cases h; omega
      · cases h; omega
theorem bt_s {i : Nat} : v.bt (i + 1) = match v.bt i with
  | none => if v.dm i = true then some i else none
  | some x => if cntB i.testBit v.n < cntB x.testBit v.n then (if v.dm i = true then some i else some x) else some x := rfl
theorem dm_all (h9 : v.n ≤ 9) : v.dm (2 ^ v.n - 1) = true := by
  unfold View.dm
  rw [← all_nI_ _ h9, mk_all _ (by omega), mk_or (by omega)]
  exact decide_eq_true (mk_congr fun i _ => Bool.true_or _)
theorem bt_end (h9 : v.n ≤ 9) : v.bt (2 ^ v.n) = some ((v.bt (2 ^ v.n - 1)).getD (2 ^ v.n - 1)) := by
  obtain ⟨p1, p2⟩ := pow9_ _ h9
  have := bt_s (v := v) (i := 2 ^ v.n - 1)
  rw [show 2 ^ v.n - 1 + 1 = 2 ^ v.n by omega] at this
  rw [this]
  cases hb : v.bt (2 ^ v.n - 1) with
  | none => simp only; rw [if_pos (dm_all h9)]; rfl
  | some x =>
    simp only
    rw [if_neg]
    · rfl
    · rw [all_cnt h9]
      have := cntB_le (f := x.testBit) (n := v.n)
      omega
theorem e_beats (W : WF v) (R : SC σ 9 v e) : X5_fewestBeats σ 9 = some (nI ((v.bt (2 ^ v.n - 1)).getD (2 ^ v.n - 1))) := by
  have h9 := W.n9
  obtain ⟨p1, p2⟩ := pow9_ _ h9
  unfold X5_fewestBeats
  rw [R.n, e_bit, bd_s, all_nI_ _ h9, show (0 : Int32) = nI 0 from rfl]
  refine loop_P (L := fun f (a : Int32) i => X5_fewestBeats_15 σ f 9 (nI (2 ^ v.n - 1)) a i) (P := fun i a => a = nI ((v.bt i).getD (2 ^ v.n - 1))) (Q := fun r => r = some (nI ((v.bt (2 ^ v.n - 1)).getD (2 ^ v.n - 1)))) (n := 2 ^ v.n - 1) (a := nI (2 ^ v.n - 1)) (fun f a hP => ?_) (fun f a i hi hP => Or.inr ?_) (Nat.zero_le _) (FUb (by omega)) rfl
  · rw [X5_fewestBeats_15, if_pos (nI_le (Nat.le_refl _) (by omega)), hP]
  · have hx : (v.bt i).getD (2 ^ v.n - 1) < 2 ^ v.n := by
      cases hb : v.bt i with
      | none => simp only [Option.getD_none]; omega
      | some x => have := bt_lt hb; simp only [Option.getD_some]; omega
    have l1 := cntB_le (f := i.testBit) (n := v.n)
    have l2 := cntB_le (f := ((v.bt i).getD (2 ^ v.n - 1)).testBit) (n := v.n)
    rw [X5_fewestBeats_15, if_neg (nI_ge hi (by omega)), hP]
    unfold X5_fewestBeats_38
    rw [nI_1]
    have hc1 : J6_bitCount_0f7a4 σ (nI i) = some (nI (cntB i.testBit v.n)) := by rw [set_nI h9 (by omega)]; exact e_bitCount (by omega)
    have hc2 : J6_bitCount_0f7a4 σ (nI ((v.bt i).getD (2 ^ v.n - 1))) = some (nI (cntB ((v.bt i).getD (2 ^ v.n - 1)).testBit v.n)) := by rw [set_nI h9 hx]; exact e_bitCount (by omega)
    have har : X7_around σ 9 (nI i) = some (mkB (v.ar i.testBit) v.n) := by rw [set_nI h9 (by omega)]; exact e_around kd9' W R
    have hall : nI (2 ^ v.n - 1) = mkB (fun _ => true) v.n := by rw [← all_nI_ _ h9, mk_all _ (by omega)]
    rw [hc1, bd_s, hc2, bd_s, har, bd_s]
    have hd : (nI i ||| mkB (v.ar i.testBit) v.n = nI (2 ^ v.n - 1)) ↔ v.dm i = true := by
      unfold View.dm
      rw [decide_eq_true_eq, hall]
    refine ⟨nI ((v.bt (i + 1)).getD (2 ^ v.n - 1)), ?_, rfl⟩
    by_cases c : cntB ((v.bt i).getD (2 ^ v.n - 1)).testBit v.n ≤ cntB i.testBit v.n
    · rw [if_pos (nI_le c (by omega)), if_pos rfl]
      have : v.bt (i + 1) = v.bt i := by
        rw [bt_s]
        cases hb : v.bt i with
        | none =>
          rw [hb] at c
          simp only [Option.getD_none, all_cnt h9] at c
          have := full_is h9 (show i < 2 ^ v.n by omega) (by omega)
          omega
        | some x =>
          rw [hb] at c
          simp only [Option.getD_some] at c ⊢
          rw [if_neg (by omega)]
      rw [this]
    · rw [if_neg (nI_ge (by omega) (by omega)), if_neg (show ¬ (1 : Int32) = 0 by decide)]
      by_cases d : v.dm i = true
      · rw [if_pos (hd.mpr d)]
        have : v.bt (i + 1) = some i := by
          rw [bt_s]
          cases hb : v.bt i with
          | none => simp only; rw [if_pos d]
          | some x =>
            rw [hb] at c
            simp only [Option.getD_some] at c ⊢
            rw [if_pos (by omega), if_pos d]
        rw [this]; rfl
      · rw [if_neg (fun z => d (hd.mp z))]
        have : v.bt (i + 1) = v.bt i := by
          rw [bt_s]
          cases hb : v.bt i with
          | none => simp only; rw [if_neg d]
          | some x => simp only; rw [if_neg d]; split <;> rfl
        rw [this]
theorem m_all (M : SM (σ 400) v) (h9 : v.n ≤ 9) : X12_allPanes σ = some (nI (2 ^ v.n - 1)) := by
  unfold X12_allPanes
  rw [show (3 : Int32) = nI 3 from rfl, a_n M, bd_s, show ((1 : Int32) <<< (nI v.n &&& 31)) - 1 = bitv v.n - 1 from rfl, all_nI_ _ h9]
theorem m_beats (W : WF v) (M : SM (σ 400) v) : X12_beats_9 FU (-1) 0 σ = some (oI (v.bt (2 ^ v.n)), σ) := by
  have h9 := W.n9
  obtain ⟨p1, p2⟩ := pow9_ _ h9
  rw [show (0 : Int32) = nI 0 from rfl, show (-1 : Int32) = oI none from rfl]
  refine loop_P (L := fun f (a : Option Nat) i => X12_beats_9 f (oI a) i σ) (P := fun i a => a = v.bt i) (Q := fun r => r = some (oI (v.bt (2 ^ v.n)), σ)) (n := 2 ^ v.n) (a := none) (fun f a hP => ?_) (fun f a i hi hP => Or.inr ⟨v.bt (i + 1), ?_, rfl⟩) (Nat.zero_le _) (FUb (by omega)) rfl
  · rw [X12_beats_9, m_all M h9, bd_s, if_pos (nI_lt (by omega) (by omega)), hP]
  · have hall : nI (2 ^ v.n - 1) = mkB (fun _ => true) v.n := by rw [← all_nI_ _ h9, mk_all _ (by omega)]
    have har : X12_nextTo σ (nI i) = some (mkB (v.ar i.testBit) v.n) := by rw [set_nI h9 hi]; exact m_nextTo W M
    have l1 := cntB_le (f := i.testBit) (n := v.n)
    have hc1 : X12_bits σ (nI i) = some (nI (cntB i.testBit v.n)) := by rw [set_nI h9 hi]; exact m_bits (by omega)
    have hd : (nI i ||| mkB (v.ar i.testBit) v.n = nI (2 ^ v.n - 1)) ↔ v.dm i = true := by
      unfold View.dm
      rw [decide_eq_true_eq, hall]
    have h33 : ∀ x : Int32, X12_beats_33 (X12_beats_9 f) x (nI i) σ = if v.dm i = true then X12_beats_9 f (nI i) (nI (i + 1)) σ else X12_beats_9 f x (nI (i + 1)) σ := by
      intro x
      unfold X12_beats_33
      rw [har, bd_s, m_all M h9, bd_s, nI_1]
      by_cases d : v.dm i = true
      · rw [if_pos (hd.mpr d), if_pos d]
      · rw [if_neg (fun z => d (hd.mp z)), if_neg d]
    rw [X12_beats_9, m_all M h9, bd_s, if_neg (nI_nlt (by omega) (by omega)), hP, bt_s, h33, nI_1]
    cases hb : v.bt i with
    | none =>
      rw [if_pos (show oI none = -1 from rfl)]
      simp only
      by_cases d : v.dm i = true
      · rw [if_pos d, if_pos d]; rfl
      · rw [if_neg d, if_neg d]
    | some x =>
      have hx := bt_lt hb
      have l2 := cntB_le (f := x.testBit) (n := v.n)
      have hc2 : X12_bits σ (nI x) = some (nI (cntB x.testBit v.n)) := by rw [set_nI h9 (by omega)]; exact m_bits (by omega)
      rw [if_neg (show ¬ oI (some x) = -1 from nI_m1 (by omega)), hc1, bd_s, oI_s, hc2, bd_s]
      simp only
      by_cases c : cntB i.testBit v.n < cntB x.testBit v.n
      · rw [if_neg (nI_ge c (by omega)), if_pos c]
        by_cases d : v.dm i = true
        · rw [if_pos d, if_pos d]; rfl
        · rw [if_neg d, if_neg d]; rfl
      · rw [if_pos (nI_le (by omega) (by omega)), if_neg c]; rfl
theorem r_24 (hC : Core (1000 * j) σ v L) (hR : Rest (1000 * j) σ v.txt) : ∃ σ3, lw_24 x1 x2 x3 x4 x5 σ = some (true, σ3) ∧ Inv (j + 1) σ3 := by
  obtain ⟨W, R, M, -⟩ := id hC
  refine rr0 hC hR (b := nI ((v.bt (2 ^ v.n - 1)).getD (2 ^ v.n - 1))) ?_ ?_
  · unfold X11_beats; rw [e_beats W R, bd_s]
  · unfold X12_beats
    rw [pu_s, bd_s, m_beats W (sm_th M), bt_end W.n9]; rfl
/-! parts -/
/-- what is left, and how many parts there were -/
noncomputable def ptS (v : View) (s : (Nat → Bool) × Nat) (q : Nat) : (Nat → Bool) × Nat := if s.1 q = true then (fun r => s.1 r && !v.ball q 9 r, s.2 + 1) else s
noncomputable def pts (v : View) : Nat → (Nat → Bool) × Nat := iterN (ptS v) (fun _ => true, 0)
/-- among what is left, all or nothing of each part -/
theorem pts_cl (W : WF v) : ∀ i, ∀ p q, p < v.n → q < v.n → v.ball p 9 q = true → (pts v i).1 p = (pts v i).1 q := by
  sorry
end BEATS

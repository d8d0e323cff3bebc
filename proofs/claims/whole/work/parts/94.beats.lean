/-! the fewest beats; the parts -/
noncomputable def View.dm (v : View) (S : Nat) : Bool := decide ((nI S ||| mkB (v.ar S.testBit) v.n) = mkB (fun _ => true) v.n)
noncomputable def View.bt (v : View) : Nat → Option Nat := iterN (fun a S => match a with
  | none => if v.dm S = true then some S else none
  | some x => if cntB S.testBit v.n < cntB x.testBit v.n then (if v.dm S = true then some S else some x) else some x) none
section BEATS
variable {σ σ1 σ2 : Mem} {v u : View} {L : Lw} {j e : Nat} {x1 x2 x3 x4 x5 : Int32}
theorem cnt_full {f : Nat → Bool} {n : Nat} (h : cntB f n = n) : ∀ i, i < n → f i = true := by
  induction n with
  | zero => intro i hi; omega
  | succ n ih =>
    intro i hi
    have hl := cntB_le (f := f) (n := n)
    rw [cntB] at h
    by_cases hf : f n = true
    · rw [if_pos hf] at h
      by_cases e : i = n
      · rw [e]; exact hf
      · exact ih (by omega) i (by omega)
    · rw [if_neg hf] at h; omega
theorem all_nI_ : ∀ n, n ≤ 9 → bitv n - 1 = nI (2 ^ n - 1) := by decide +kernel
theorem pow9_ : ∀ n, n ≤ 9 → 1 ≤ 2 ^ n ∧ 2 ^ n ≤ 512 := by decide +kernel
theorem set_nI {S n : Nat} (hn : n ≤ 9) (hS : S < 2 ^ n) : nI S = mkB S.testBit n := nI_mk (by omega) hS
theorem full_is {S n : Nat} (hn : n ≤ 9) (hS : S < 2 ^ n) (h : cntB S.testBit n = n) : S = 2 ^ n - 1 := by
  obtain ⟨p1, p2⟩ := pow9_ n hn
  have : nI S = nI (2 ^ n - 1) := by
    rw [set_nI hn hS, ← all_nI_ n hn, mk_all n (by omega)]
    exact mk_congr fun i hi => cnt_full h i hi
  exact nI_inj (by omega) (by omega) this
theorem cnt_tt (n : Nat) : cntB (fun _ => true) n = n := by
  induction n with
  | zero => rfl
  | succ n ih => rw [cntB, ih]; rfl
theorem all_cnt {n : Nat} (hn : n ≤ 9) : cntB (2 ^ n - 1).testBit n = n := by
  obtain ⟨p1, p2⟩ := pow9_ n hn
  have h : mkB (2 ^ n - 1).testBit n = mkB (fun _ => true) n := by
    rw [← set_nI hn (by omega), ← all_nI_ n hn, mk_all n (by omega)]
  have h := mk_inj (by omega) h
  rw [cntB_congr h, cnt_tt]
theorem bt_lt {i x : Nat} (h : v.bt i = some x) : x < i := by
  induction i generalizing x with
  | zero => cases h
  | succ i ih =>
    unfold View.bt at h ih
    rw [iterN] at h
    split at h
    · split at h
      · cases h; omega
      · cases h
    · rename_i y hy
      have := ih hy
      split at h
      · split at h
        · cases h; omega
        · cases h; omega
      · cases h; omega
theorem bt_s {i : Nat} : v.bt (i + 1) = match v.bt i with
  | none => if v.dm i = true then some i else none
  | some x => if cntB i.testBit v.n < cntB x.testBit v.n then (if v.dm i = true then some i else some x) else some x := rfl
theorem dm_all (h9 : v.n ≤ 9) : v.dm (2 ^ v.n - 1) = true := by
  unfold View.dm
  rw [← all_nI_ _ h9, mk_all _ (by omega), mk_or (by omega)]
  exact decide_eq_true (mk_congr fun i _ => Bool.true_or _)
theorem bt_end (h9 : v.n ≤ 9) : v.bt (2 ^ v.n) = some ((v.bt (2 ^ v.n - 1)).getD (2 ^ v.n - 1)) := by
  obtain ⟨p1, p2⟩ := pow9_ _ h9
  have := bt_s (v := v) (i := 2 ^ v.n - 1)
  rw [show 2 ^ v.n - 1 + 1 = 2 ^ v.n by omega] at this
  rw [this]
  cases hb : v.bt (2 ^ v.n - 1) with
  | none => simp only; rw [if_pos (dm_all h9)]; rfl
  | some x =>
    simp only
    rw [if_neg]
    · rfl
    · rw [all_cnt h9]
      have := cntB_le (f := x.testBit) (n := v.n)
      omega
theorem e_beats (W : WF v) (R : SC σ 9 v e) : X5_fewestBeats σ 9 = some (nI ((v.bt (2 ^ v.n - 1)).getD (2 ^ v.n - 1))) := by
  have h9 := W.n9
  obtain ⟨p1, p2⟩ := pow9_ _ h9
  unfold X5_fewestBeats
  rw [R.n, e_bit, bd_s, all_nI_ _ h9, show (0 : Int32) = nI 0 from rfl]
  refine loop_P (L := fun f (a : Int32) i => X5_fewestBeats_15 σ f 9 (nI (2 ^ v.n - 1)) a i) (P := fun i a => a = nI ((v.bt i).getD (2 ^ v.n - 1))) (Q := fun r => r = some (nI ((v.bt (2 ^ v.n - 1)).getD (2 ^ v.n - 1)))) (n := 2 ^ v.n - 1) (a := nI (2 ^ v.n - 1)) (fun f a hP => ?_) (fun f a i hi hP => Or.inr ?_) (Nat.zero_le _) (FUb (by omega)) rfl
  · rw [X5_fewestBeats_15, if_pos (nI_le (Nat.le_refl _) (by omega)), hP]
  · have hx : (v.bt i).getD (2 ^ v.n - 1) < 2 ^ v.n := by
      cases hb : v.bt i with
      | none => simp only [Option.getD_none]; omega
      | some x => have := bt_lt hb; simp only [Option.getD_some]; omega
    have l1 := cntB_le (f := i.testBit) (n := v.n)
    have l2 := cntB_le (f := ((v.bt i).getD (2 ^ v.n - 1)).testBit) (n := v.n)
    rw [X5_fewestBeats_15, if_neg (nI_ge hi (by omega)), hP]
    unfold X5_fewestBeats_38
    rw [nI_1]
    have hc1 : J6_bitCount_0f7a4 σ (nI i) = some (nI (cntB i.testBit v.n)) := by rw [set_nI h9 (by omega)]; exact e_bitCount (by omega)
    have hc2 : J6_bitCount_0f7a4 σ (nI ((v.bt i).getD (2 ^ v.n - 1))) = some (nI (cntB ((v.bt i).getD (2 ^ v.n - 1)).testBit v.n)) := by rw [set_nI h9 hx]; exact e_bitCount (by omega)
    have har : X7_around σ 9 (nI i) = some (mkB (v.ar i.testBit) v.n) := by rw [set_nI h9 (by omega)]; exact e_around kd9' W R
    have hall : nI (2 ^ v.n - 1) = mkB (fun _ => true) v.n := by rw [← all_nI_ _ h9, mk_all _ (by omega)]
    rw [hc1, bd_s, hc2, bd_s, har, bd_s]
    have hd : (nI i ||| mkB (v.ar i.testBit) v.n = nI (2 ^ v.n - 1)) ↔ v.dm i = true := by
      unfold View.dm
      rw [decide_eq_true_eq, hall]
    refine ⟨nI ((v.bt (i + 1)).getD (2 ^ v.n - 1)), ?_, rfl⟩
    by_cases c : cntB ((v.bt i).getD (2 ^ v.n - 1)).testBit v.n ≤ cntB i.testBit v.n
    · rw [if_pos (nI_le c (by omega)), if_pos rfl]
      have : v.bt (i + 1) = v.bt i := by
        rw [bt_s]
        cases hb : v.bt i with
        | none =>
          rw [hb] at c
          simp only [Option.getD_none, all_cnt h9] at c
          have := full_is h9 (show i < 2 ^ v.n by omega) (by omega)
          omega
        | some x =>
          rw [hb] at c
          simp only [Option.getD_some] at c ⊢
          rw [if_neg (by omega)]
      rw [this]
    · rw [if_neg (nI_ge (by omega) (by omega)), if_neg (show ¬ (1 : Int32) = 0 by decide)]
      by_cases d : v.dm i = true
      · rw [if_pos (hd.mpr d)]
        have : v.bt (i + 1) = some i := by
          rw [bt_s]
          cases hb : v.bt i with
          | none => simp only; rw [if_pos d]
          | some x =>
            rw [hb] at c
            simp only [Option.getD_some] at c ⊢
            rw [if_pos (by omega), if_pos d]
        rw [this]; rfl
      · rw [if_neg (fun z => d (hd.mp z))]
        have : v.bt (i + 1) = v.bt i := by
          rw [bt_s]
          cases hb : v.bt i with
          | none => simp only; rw [if_neg d]
          | some x => simp only; rw [if_neg d]; split <;> rfl
        rw [this]
theorem m_all (M : SM (σ 400) v) (h9 : v.n ≤ 9) : X12_allPanes σ = some (nI (2 ^ v.n - 1)) := by
  unfold X12_allPanes
  rw [show (3 : Int32) = nI 3 from rfl, a_n M, bd_s, show ((1 : Int32) <<< (nI v.n &&& 31)) - 1 = bitv v.n - 1 from rfl, all_nI_ _ h9]
theorem m_beats (W : WF v) (M : SM (σ 400) v) : X12_beats_9 FU (-1) 0 σ = some (oI (v.bt (2 ^ v.n)), σ) := by
  have h9 := W.n9
  obtain ⟨p1, p2⟩ := pow9_ _ h9
  rw [show (0 : Int32) = nI 0 from rfl, show (-1 : Int32) = oI none from rfl]
  refine loop_P (L := fun f (a : Option Nat) i => X12_beats_9 f (oI a) i σ) (P := fun i a => a = v.bt i) (Q := fun r => r = some (oI (v.bt (2 ^ v.n)), σ)) (n := 2 ^ v.n) (a := none) (fun f a hP => ?_) (fun f a i hi hP => Or.inr ⟨v.bt (i + 1), ?_, rfl⟩) (Nat.zero_le _) (FUb (by omega)) rfl
  · rw [X12_beats_9, m_all M h9, bd_s, if_pos (nI_lt (by omega) (by omega)), hP]
  · have hall : nI (2 ^ v.n - 1) = mkB (fun _ => true) v.n := by rw [← all_nI_ _ h9, mk_all _ (by omega)]
    have har : X12_nextTo σ (nI i) = some (mkB (v.ar i.testBit) v.n) := by rw [set_nI h9 hi]; exact m_nextTo W M
    have l1 := cntB_le (f := i.testBit) (n := v.n)
    have hc1 : X12_bits σ (nI i) = some (nI (cntB i.testBit v.n)) := by rw [set_nI h9 hi]; exact m_bits (by omega)
    have hd : (nI i ||| mkB (v.ar i.testBit) v.n = nI (2 ^ v.n - 1)) ↔ v.dm i = true := by
      unfold View.dm
      rw [decide_eq_true_eq, hall]
    have h33 : ∀ x : Int32, X12_beats_33 (X12_beats_9 f) x (nI i) σ = if v.dm i = true then X12_beats_9 f (nI i) (nI (i + 1)) σ else X12_beats_9 f x (nI (i + 1)) σ := by
      intro x
      unfold X12_beats_33
      rw [har, bd_s, m_all M h9, bd_s, nI_1]
      by_cases d : v.dm i = true
      · rw [if_pos (hd.mpr d), if_pos d]
      · rw [if_neg (fun z => d (hd.mp z)), if_neg d]
    rw [X12_beats_9, m_all M h9, bd_s, if_neg (nI_nlt (by omega) (by omega)), hP, bt_s, h33, nI_1]
    cases hb : v.bt i with
    | none =>
      rw [if_pos (show oI none = -1 from rfl)]
      simp only
      by_cases d : v.dm i = true
      · rw [if_pos d, if_pos d]; rfl
      · rw [if_neg d, if_neg d]
    | some x =>
      have hx := bt_lt hb
      have l2 := cntB_le (f := x.testBit) (n := v.n)
      have hc2 : X12_bits σ (nI x) = some (nI (cntB x.testBit v.n)) := by rw [set_nI h9 (by omega)]; exact m_bits (by omega)
      rw [if_neg (show ¬ oI (some x) = -1 from nI_m1 (by omega)), hc1, bd_s, oI_s, hc2, bd_s]
      simp only
      by_cases c : cntB i.testBit v.n < cntB x.testBit v.n
      · rw [if_neg (nI_ge c (by omega)), if_pos c]
        by_cases d : v.dm i = true
        · rw [if_pos d, if_pos d]; rfl
        · rw [if_neg d, if_neg d]; rfl
      · rw [if_pos (nI_le (by omega) (by omega)), if_neg c]; rfl
theorem r_24 (hC : Core (1000 * j) σ v L) (hR : Rest (1000 * j) σ v.txt) : ∃ σ3, lw_24 x1 x2 x3 x4 x5 σ = some (true, σ3) ∧ Inv (j + 1) σ3 := by
  obtain ⟨W, R, M, -⟩ := id hC
  refine rr0 hC hR (b := nI ((v.bt (2 ^ v.n - 1)).getD (2 ^ v.n - 1))) ?_ ?_
  · unfold X11_beats; rw [e_beats W R, bd_s]
  · unfold X12_beats
    rw [pu_s, bd_s, m_beats W (sm_th M), bt_end W.n9]; rfl
/-! parts -/
/-- what is left, and how many parts there were -/
noncomputable def ptS (v : View) (s : (Nat → Bool) × Nat) (q : Nat) : (Nat → Bool) × Nat := if s.1 q = true then (fun r => s.1 r && !v.ball q 9 r, s.2 + 1) else s
noncomputable def pts (v : View) : Nat → (Nat → Bool) × Nat := iterN (ptS v) (fun _ => true, 0)
def Clo (v : View) (g : Nat → Bool) : Prop := ∀ a b, a < v.n → b < v.n → v.way a b = true → g a = g b
theorem ball_clo (W : WF v) {p : Nat} (hp : p < v.n) : Clo v (v.ball p 9) := by
  have one : ∀ a b, a < v.n → b < v.n → v.way a b = true → v.ball p 9 a = true → v.ball p 9 b = true := by
    intro a b ha hb hw h
    exact sp_iff.mpr (Or.inr ⟨a, ha, ball_8 W hp ha h, hw⟩)
  intro a b ha hb hw
  apply Bool.eq_iff_iff.mpr
  exact ⟨one a b ha hb hw, one b a hb ha (by rw [← W.sym a b ha hb]; exact hw)⟩
theorem Clo.cut {g h : Nat → Bool} (hg : Clo v g) (hh : Clo v h) : Clo v (fun q => g q && !h q) := fun a b ha hb hw => by
  dsimp only
  rw [hg a b ha hb hw, hh a b ha hb hw]
theorem reach_clo {g : Nat → Bool} (hg : Clo v g) {p : Nat} (hp : p < v.n) (gp : g p = true) : ∀ t q, q < v.n → v.reach g p t q = v.ball p t q ∧ (v.ball p t q = true → g q = true) := by
  intro t
  induction t with
  | zero =>
    intro q hq
    unfold View.reach View.ball
    by_cases c : q = p
    · subst c; rw [gp]; simp
    · simp [c]
  | succ t ih =>
    intro q hq
    have key : ∀ (P Q : Nat → Bool) (m i : Nat), (∀ r, i ≤ r → r < i + m → P r = Q r) → anyR P i m = anyR Q i m := by
      intro P Q m
      induction m with
      | zero => intro i _; rfl
      | succ m ih2 => intro i h; rw [anyR, anyR, h i (Nat.le_refl _) (by omega), ih2 (i + 1) (fun r h1 h2 => h r (by omega) (by omega))]
    have har : v.ar (v.reach g p t) q = v.ar (v.ball p t) q := by
      unfold View.ar
      exact key _ _ _ _ fun r _ h2 => by rw [(ih r (by omega)).1]
    have hgq : v.ball p (t + 1) q = true → g q = true := by
      intro h
      rcases sp_iff.mp h with h | ⟨r, r1, r2, r3⟩
      · exact (ih q hq).2 h
      · rw [← hg r q r1 hq r3]; exact (ih r r1).2 r2
    refine ⟨?_, hgq⟩
    show (v.reach g p t q || (v.ar (v.reach g p t) q && g q)) = (v.ball p t q || v.ar (v.ball p t) q)
    rw [(ih q hq).1, har]
    cases h1 : v.ball p t q with
    | true => rfl
    | false =>
      cases h2 : v.ar (v.ball p t) q with
      | false => rfl
      | true =>
        rw [hgq (by show (v.ball p t q || v.ar (v.ball p t) q) = true; rw [h2, Bool.or_true])]
        rfl
theorem pts_clo (W : WF v) : ∀ i, i ≤ v.n → Clo v (pts v i).1 := by
  intro i
  induction i with
  | zero => intro _ a b _ _ _; rfl
  | succ i ih =>
    intro hi
    have h := ih (by omega)
    show Clo v (ptS v (pts v i) i).1
    unfold ptS
    split
    · exact h.cut (ball_clo W (by omega))
    · exact h
theorem pts_cnt : ∀ i, (pts v i).2 ≤ i := by
  intro i
  induction i with
  | zero => exact Nat.le_refl _
  | succ i ih =>
    show (ptS v (pts v i) i).2 ≤ i + 1
    unfold ptS
    split
    · exact Nat.succ_le_succ ih
    · omega
theorem e_pieces (W : WF v) (R : SC σ 9 v e) : X5_pieces σ 9 = some (nI (pts v v.n).2) := by
  have h9 := W.n9
  unfold X5_pieces
  rw [R.n, e_bit, bd_s, mk_all v.n (by omega), show (0 : Int32) = nI 0 from rfl]
  refine loop_P (L := fun f (a : Int32 × Int32) i => X5_pieces_15 σ f 9 a.1 a.2 i) (P := fun i a => a = (mkB (pts v i).1 v.n, nI (pts v i).2)) (Q := fun r => r = some (nI (pts v v.n).2)) (n := v.n) (a := (mkB (fun _ => true) v.n, nI 0)) (fun f a hP => ?_) (fun f a i hi hP => Or.inr ⟨(mkB (pts v (i + 1)).1 v.n, nI (pts v (i + 1)).2), ?_, rfl⟩) (Nat.zero_le _) (FUb (by omega)) rfl
  · rw [hP, X5_pieces_15, R.n, if_pos (nI_le (Nat.le_refl _) (by omega))]
  · rw [hP, X5_pieces_15, R.n, if_neg (nI_ge hi (by omega)), e_hasBit, hb_mk (by omega) (by omega), decide_eq_true hi, Bool.true_and, bd_s, nI_1]
    have hs : pts v (i + 1) = ptS v (pts v i) i := rfl
    rw [hs]
    unfold ptS
    cases hg : (pts v i).1 i with
    | false => rw [if_pos (show b2i false = 0 from rfl), if_neg (by decide)]
    | true =>
      rw [if_neg (show ¬ b2i true = 0 by decide), if_pos rfl, e_reached kd9' W R hi, bd_s, nI_1, show (-1 : Int32) = oI none from rfl, xorN, mk_and_not (by omega)]
      dsimp only
      congr 1
      apply mk_congr
      intro q hq
      rw [hb_mk (by omega) (by omega), decide_eq_true hq, Bool.true_and]
      have hcl : Clo v (hb (mkB (pts v i).1 v.n)) := fun a b ha hb hw => by
        rw [hb_mk (by omega) (by omega), hb_mk (by omega) (by omega), decide_eq_true ha, decide_eq_true hb]
        rw [pts_clo W i (by omega) a b ha hb hw]
      rw [(reach_clo hcl hi (by rw [hb_mk (by omega) (by omega), decide_eq_true hi, hg]; rfl) 9 q hq).1]
theorem m_piece (W : WF v) (M : SM (σ 400) v) {p : Nat} (hp : p < v.n) : X12_pieceOf σ (nI p) (-1) = some (mkB (v.ball p 9) v.n) := by
  have h9 := W.n9
  unfold X12_pieceOf
  rw [show (1 : Int32) <<< (nI p &&& 31) = bitv p from rfl, mk_bit (n := v.n) (by omega) hp, show (0 : Int32) = nI 0 from rfl]
  refine loop_P (L := fun f (a : Int32) i => X12_pieceOf_7 σ f (-1) a i) (P := fun i a => a = mkB (v.ball p i) v.n) (Q := fun r => r = some (mkB (v.ball p 9) v.n)) (n := 9) (a := mkB (fun i => decide (i = p)) v.n) (fun f a hP => ?_) (fun f a i hi hP => Or.inr ⟨mkB (v.ball p (i + 1)) v.n, ?_, rfl⟩) (Nat.zero_le _) (FUb (by omega)) rfl
  · rw [X12_pieceOf_7, if_pos (by decide), hP]
  · rw [X12_pieceOf_7, if_neg (show ¬ (9 : Int32) ≤ nI i from nI_ge (b := 9) (by omega) (by omega)), if_pos rfl, hP, m_nextTo W M, bd_s]
    unfold X12_pieceOf_39
    rw [mk_or (by omega), nI_1]
    rfl
theorem m_parts (W : WF v) (M : SM (σ 400) v) : X12_parts_14 FU (nI (2 ^ v.n - 1)) 0 0 σ = some (nI (pts v v.n).2, σ) := by
  have h9 := W.n9
  rw [← all_nI_ _ h9, mk_all v.n (by omega), show (0 : Int32) = nI 0 from rfl]
  refine loop_P (L := fun f (a : Int32 × Int32) i => X12_parts_14 f a.1 a.2 i σ) (P := fun i a => a = (mkB (pts v i).1 v.n, nI (pts v i).2)) (Q := fun r => r = some (nI (pts v v.n).2, σ)) (n := v.n) (a := (mkB (fun _ => true) v.n, nI 0)) (fun f a hP => ?_) (fun f a i hi hP => Or.inr ⟨(mkB (pts v (i + 1)).1 v.n, nI (pts v (i + 1)).2), ?_, rfl⟩) (Nat.zero_le _) (FUb (by omega)) rfl
  · rw [hP, X12_parts_14, show (3 : Int32) = nI 3 from rfl, a_n M, bd_s, if_pos (nI_le (Nat.le_refl _) (by omega))]
  · rw [hP, X12_parts_14, show (3 : Int32) = nI 3 from rfl, a_n M, bd_s, if_neg (nI_ge hi (by omega)), e_isOf, hb_mk (by omega) (by omega), decide_eq_true hi, Bool.true_and, bd_s, nI_1]
    have hs : pts v (i + 1) = ptS v (pts v i) i := rfl
    rw [hs]
    unfold ptS
    cases hg : (pts v i).1 i with
    | false => rw [if_pos (show b2i false = 0 from rfl), if_neg (by decide)]
    | true =>
      rw [if_neg (show ¬ b2i true = 0 by decide), if_pos rfl, m_piece W M hi, bd_s, nI_1, show (-1 : Int32) = oI none from rfl, xorN, mk_and_not (by omega)]
      dsimp only
      congr 1
      apply mk_congr
      intro q hq
      rw [hb_mk (by omega) (by omega), decide_eq_true hq, Bool.true_and]
theorem r_25 (hC : Core (1000 * j) σ v L) (hR : Rest (1000 * j) σ v.txt) : ∃ σ3, lw_25 x1 x2 x3 x4 x5 σ = some (true, σ3) ∧ Inv (j + 1) σ3 := by
  obtain ⟨W, R, M, -⟩ := id hC
  refine rr0 hC hR (b := nI (pts v v.n).2) ?_ ?_
  · unfold X11_parts; rw [e_pieces W R, bd_s]
  · unfold X12_parts
    rw [pu_s, bd_s, m_all (sm_th M) W.n9, bd_s]
    exact m_parts W (sm_th M)
end BEATS

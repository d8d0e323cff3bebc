/-! where the walker may be that walked so -/
noncomputable def View.wk2 (v : View) (b : Nat → Nat) (i : Nat) : Bool := decide (b (2 * i) < v.n) && decide (b (2 * i + 1) ≤ 20)
noncomputable def View.wks (v : View) (b : Nat → Nat) (T : Nat) : Bool := decide (T ≤ 40) && decide (T % 2 = 0) && !anyR (fun i => !v.wk2 b i) 0 (T / 2)
/-- where so many rows let one be at an hour -/
def alB (b : Nat → Nat) (N h : Nat) : Nat → Bool := fun p => !anyR (fun i => decide (b (2 * i + 1) = h) && !decide (p = b (2 * i))) 0 N
noncomputable def View.wkS (v : View) (b : Nat → Nat) (N : Nat) : Nat → Nat → Bool
  | 0 => fun _ => true
  | d + 1 => fun q => (v.wkS b N d q && alB b N (20 - d) q) || v.ar (fun q => v.wkS b N d q && alB b N (20 - d) q) q
noncomputable def View.wkE (v : View) (b : Nat → Nat) (N : Nat) : Nat → Bool := fun q => v.wkS b N 20 q && alB b N 0 q
section WHOLIT
variable {σ σ1 σ2 : Mem} {v u : View} {L : Lw} {j e T N : Nat} {x1 x2 x3 x4 x5 : Int32} {b : Nat → Nat}
theorem mod2 {a : Nat} (ha : a < 1000) : nI a - nI a / 2 * 2 = nI (a % 2) := by
  rw [show (2 : Int32) = nI 2 from rfl, pk_div (by omega) (by omega) (by omega), nI_mul, nI_subN (by omega)]
  congr 1
  omega
theorem e_wks (R : SC σ 9 v e) (h9 : v.n ≤ 9) (hb : Byts σ T b) (hT : T ≤ 400) : X5_isWalk σ 9 (nI T) = some (b2i (v.wks b T)) := by
  unfold X5_isWalk View.wks
  rw [show (0 : Int32) = nI 0 from rfl, mod2 (by omega)]
  by_cases c1 : T ≤ 40
  · rw [if_neg (show ¬ (40 : Int32) < nI T from nI_nlt (a := 40) c1 (by omega)), decide_eq_true c1, Bool.true_and]
    by_cases c2 : T % 2 = 0
    · rw [if_pos (by rw [c2]), decide_eq_true c2, Bool.true_and]
      have hN : T = 2 * (T / 2) := by omega
      generalize T / 2 = N at hN ⊢
      refine loop_P (L := fun f (_ : Unit) i => X5_isWalk_17 σ f 9 (nI T) (nI 2 * i)) (P := fun i _ => anyR (fun i => !v.wk2 b i) 0 i = false) (Q := fun r => r = some (b2i (!anyR (fun i => !v.wk2 b i) 0 N))) (n := N) (a := ()) (fun f a hP => ?_) (fun f a i hi hP => ?_) (Nat.zero_le _) (FUb (by omega)) rfl
      · rw [X5_isWalk_17, nI_mul, if_pos (nI_le (by omega) (by omega)), hP]; rfl
      · have bad : v.wk2 b i = false → some (0 : Int32) = some (b2i (!anyR (fun i => !v.wk2 b i) 0 N)) := by
          intro h
          rw [anyR_iff.mpr ⟨i, Nat.zero_le _, by omega, by simp [h]⟩]; rfl
        have l0 := (hb (2 * i) (by omega)).2.2
        have l1 := (hb (2 * i + 1) (by omega)).2.2
        rw [X5_isWalk_17, nI_mul, if_neg (nI_ge (by omega) (by omega)), e_byte hb hT (by omega), bd_s, nI_1, R.n]
        by_cases d1 : b (2 * i) < v.n
        · rw [if_neg (nI_ge d1 (by omega)), e_byte hb hT (by omega), bd_s]
          by_cases d2 : b (2 * i + 1) ≤ 20
          · right
            rw [if_pos (show nI (b (2 * i + 1)) ≤ 20 from nI_le (b := 20) d2 (by omega)), show (2 : Int32) = nI 2 from rfl, nI_add]
            refine ⟨(), by rw [nI_mul, Nat.mul_succ], ?_⟩
            rw [anyR_app, hP, Nat.zero_add, Bool.false_or]
            unfold View.wk2
            simp [d1, d2]
          · left
            rw [if_neg (show ¬ nI (b (2 * i + 1)) ≤ 20 from nI_ge (b := b (2 * i + 1)) (a := 20) (by omega) (by omega))]
            exact bad (by unfold View.wk2; simp [d2])
        · left
          rw [if_pos (nI_le (by omega) (by omega))]
          exact bad (by unfold View.wk2; simp [d1])
    · rw [if_neg (fun z => c2 (nI_inj (by omega) (by omega) z)), decide_eq_false c2]; rfl
  · rw [if_pos (show (40 : Int32) < nI T from nI_lt (a := 40) (by omega) (by omega)), decide_eq_false c1]; rfl
theorem m_wks (W : WF v) (M : SM (σ 400) v) (hb : Byts σ T b) (hT : T ≤ 400) : X12_areRows σ (nI T) = some (b2i (v.wks b T)) := by
  have h9 := W.n9
  unfold X12_areRows View.wks
  rw [mod2 (by omega)]
  have no : X12_areRows_16 σ (nI T) = some (b2i false) := by
    unfold X12_areRows_16 X12_areRows_17
    obtain ⟨z, hz⟩ : ∃ z, FU = z + 1 := ⟨FU - 1, by rfl⟩
    rw [hz, X12_areRows_20]
    by_cases c : nI T ≤ 0
    · rw [if_pos c]; rfl
    · rw [if_neg c, if_pos rfl]; rfl
  by_cases c2 : T % 2 = 0
  · rw [if_pos (by rw [c2]; rfl)]
    by_cases c1 : T ≤ 40
    · rw [if_neg (show ¬ (40 : Int32) < nI T from nI_nlt (a := 40) c1 (by omega)), decide_eq_true c1, decide_eq_true c2, Bool.true_and, Bool.true_and]
      unfold X12_areRows_17
      have hN : T = 2 * (T / 2) := by omega
      generalize T / 2 = N at hN ⊢
      rw [show (0 : Int32) = nI 2 * nI 0 from rfl]
      have gbb : ∀ c : Bool, (bd (gb (b2i c)) fun _ => some (b2i c)) = some (b2i c) := by intro c; rw [gb_b, bd_s]
      refine loop_P (L := fun f (c : Bool) i => X12_areRows_20 σ f (nI T) (b2i c) (nI 2 * i)) (P := fun i c => c = !anyR (fun i => !v.wk2 b i) 0 i) (Q := fun r => r = some (b2i (!anyR (fun i => !v.wk2 b i) 0 N))) (n := N) (a := true) (fun f c hc => ?_) (fun f c i hi hc => ?_) (Nat.zero_le _) (FUb (by omega)) rfl
      · rw [X12_areRows_20, nI_mul, if_pos (nI_le (by omega) (by omega)), gbb, hc]
      · rw [X12_areRows_20, nI_mul, if_neg (nI_ge (by omega) (by omega))]
        have l0 := (hb (2 * i) (by omega)).2.2
        have l1 := (hb (2 * i + 1) (by omega)).2.2
        cases hcc : c with
        | false =>
          left
          rw [if_pos (show b2i false = 0 from rfl), gbb]
          rw [hcc] at hc
          have hx : anyR (fun i => !v.wk2 b i) 0 i = true := by
            cases h : anyR (fun i => !v.wk2 b i) 0 i with
            | true => rfl
            | false => rw [h] at hc; cases hc
          obtain ⟨y, y0, y1, y2⟩ := anyR_iff.mp hx
          rw [anyR_iff.mpr ⟨y, y0, by omega, y2⟩]; rfl
        | true =>
          right
          rw [hcc] at hc
          rw [if_neg (show ¬ b2i true = 0 by decide), m_byte hb hT (by omega), bd_s, show ag σ 400 3 = _ from a_n M, bd_s]
          unfold X12_areRows_61 X12_areRows_62
          rw [show (2 : Int32) = nI 2 from rfl, nI_add]
          refine ⟨v.wk2 b i, ?_, ?_⟩
          · rw [nI_mul, Nat.mul_succ]
            unfold View.wk2
            by_cases d1 : b (2 * i) < v.n
            · rw [if_neg (nI_ge d1 (by omega)), nI_1, m_byte hb hT (by omega), bd_s, decide_eq_true d1, Bool.true_and]
              by_cases d2 : b (2 * i + 1) ≤ 20
              · rw [if_neg (show ¬ (20 : Int32) < nI (b (2 * i + 1)) from nI_nlt (a := 20) (by omega) (by omega)), decide_eq_true d2]; rfl
              · rw [if_pos (show (20 : Int32) < nI (b (2 * i + 1)) from nI_lt (a := 20) (by omega) (by omega)), decide_eq_false d2]; rfl
            · rw [if_pos (nI_le (by omega) (by omega)), decide_eq_false d1]; rfl
          · rw [anyR_app, Nat.zero_add, Bool.not_or, Bool.not_not, ← hc, Bool.true_and]
    · rw [if_pos (show (40 : Int32) < nI T from nI_lt (a := 40) (by omega) (by omega)), no, decide_eq_false c1]; rfl
  · rw [if_neg (show ¬ nI (T % 2) = 0 from fun z => c2 (nI_inj (b := 0) (by omega) (by omega) z)), no, decide_eq_false c2, Bool.and_false]; rfl
theorem wks_t (h : v.wks b T = true) : T ≤ 40 ∧ T % 2 = 0 ∧ ∀ i, i < T / 2 → b (2 * i) < v.n ∧ b (2 * i + 1) ≤ 20 := by
  unfold View.wks at h
  simp only [Bool.and_eq_true, decide_eq_true_eq, Bool.not_eq_true'] at h
  obtain ⟨⟨h1, h2⟩, h3⟩ := h
  refine ⟨h1, h2, fun i hi => ?_⟩
  have := anyR_no.mp h3 i (Nat.zero_le _) (by omega)
  unfold View.wk2 at this
  simp only [Bool.not_eq_false', Bool.and_eq_true, decide_eq_true_eq] at this
  exact this
theorem alB_s {h i q : Nat} : alB b (i + 1) h q = (alB b i h q && (!decide (b (2 * i + 1) = h) || decide (q = b (2 * i)))) := by
  unfold alB
  rw [anyR_app, Nat.zero_add, Bool.not_or, Bool.not_and, Bool.not_not]
/-- the reference -/
theorem m_places (W : WF v) (M : SM (σ 400) v) (hb : Byts σ (2 * N) b) (hT : 2 * N ≤ 400) (hr : ∀ i, i < N → b (2 * i) < v.n ∧ b (2 * i + 1) ≤ 20) : X12_places σ (nI (2 * N)) = some (mkB (v.wkE b N) v.n) := by
  have h9 := W.n9
  have rowsAt : ∀ (f : Nat → Bool) (h : Nat) (g : Nat), h ≤ 20 → X12_places_15 σ (X12_places_8 σ g) FU (nI (2 * N)) (mkB f v.n) (nI h) (nI 0) = (if nI h ≤ 0 then X12_places_8 σ g (nI (2 * N)) (mkB (fun q => f q && alB b N h q) v.n) (nI h + -1) else bd (X12_nextTo σ (mkB (fun q => f q && alB b N h q) v.n)) fun r63 => X12_places_8 σ g (nI (2 * N)) (mkB (fun q => f q && alB b N h q) v.n ||| r63) (nI h + -1)) := by
    intro f h g hh
    rw [show nI 0 = nI 2 * nI 0 from rfl]
    refine loop_P (L := fun f2 (a : Int32) i => X12_places_15 σ (X12_places_8 σ g) f2 (nI (2 * N)) a (nI h) (nI 2 * i)) (P := fun i a => a = mkB (fun q => f q && alB b i h q) v.n) (Q := fun r => r = (if nI h ≤ 0 then X12_places_8 σ g (nI (2 * N)) (mkB (fun q => f q && alB b N h q) v.n) (nI h + -1) else bd (X12_nextTo σ (mkB (fun q => f q && alB b N h q) v.n)) fun r63 => X12_places_8 σ g (nI (2 * N)) (mkB (fun q => f q && alB b N h q) v.n ||| r63) (nI h + -1))) (n := N) (a := mkB f v.n) (fun f2 a hP => ?_) (fun f2 a i hi hP => Or.inr ?_) (Nat.zero_le _) (FUb (by omega)) (mk_congr fun i _ => by unfold alB; rw [anyR, Bool.not_false, Bool.and_true])
    · rw [X12_places_15, nI_mul, if_pos (nI_le (Nat.le_refl _) (by omega)), hP]
    · obtain ⟨r1, r2⟩ := hr i hi
      rw [X12_places_15, nI_mul, if_neg (nI_ge (by omega) (by omega)), nI_1, m_byte hb hT (by omega), bd_s, m_byte hb hT (by omega), bd_s]
      unfold X12_places_48
      rw [show (2 : Int32) = nI 2 from rfl, nI_add, show (1 : Int32) <<< (nI (b (2 * i)) &&& 31) = bitv (b (2 * i)) from rfl]
      refine ⟨mkB (fun q => f q && alB b (i + 1) h q) v.n, ?_, rfl⟩
      rw [nI_mul, Nat.mul_succ, hP]
      by_cases c : b (2 * i + 1) = h
      · rw [if_pos (by rw [c]), mk_and_x (by omega)]
        congr 1
        apply mk_congr
        intro q hq
        rw [alB_s, decide_eq_true c, Bool.not_true, Bool.false_or, hb_bit (by omega) (by omega), Bool.and_assoc]
      · rw [if_neg (fun z => c (nI_inj (by omega) (by omega) z)), mk_and (by omega)]
        congr 1
        apply mk_congr
        intro q hq
        rw [alB_s, decide_eq_false c, Bool.not_false, Bool.true_or, Bool.and_true, Bool.and_self]
  unfold X12_places X12_allPanes
  rw [show (3 : Int32) = nI 3 from rfl, a_n M, bd_s, bd_s, show ((1 : Int32) <<< (nI v.n &&& 31)) - 1 = bitv v.n - 1 from rfl, mk_all v.n (by omega)]
  have key : ∀ (d g : Nat), d ≤ 20 → 21 < g + d → X12_places_8 σ g (nI (2 * N)) (mkB (v.wkS b N d) v.n) (nI (20 - d)) = some (mkB (v.wkE b N) v.n) := by
    intro d
    induction hm : 20 - d generalizing d with
    | zero =>
      intro g hd hg
      have : d = 20 := by omega
      subst this
      obtain ⟨g, rfl⟩ : ∃ z, g = z + 2 := ⟨g - 2, by omega⟩
      rw [X12_places_8, if_neg (show ¬ nI 0 < 0 by decide), show (0 : Int32) = nI 0 from rfl, rowsAt _ 0 (g + 1) (by omega), if_pos (by decide), X12_places_8, if_pos (by decide)]
      rfl
    | succ m ih =>
      intro g hd hg
      obtain ⟨g, rfl⟩ : ∃ z, g = z + 1 := ⟨g - 1, by omega⟩
      rw [X12_places_8, if_neg (show ¬ nI (m + 1) < 0 from nI_pos (by omega)), show (0 : Int32) = nI 0 from rfl, rowsAt _ (m + 1) g (by omega), if_neg (show ¬ nI (m + 1) ≤ 0 from nI_nle (by omega) (by omega)), m_nextTo W M, bd_s, mk_or (by omega)]
      have e1 : nI (m + 1) + -1 = nI m := by rw [show (-1 : Int32) = -(nI 1) from rfl, ← Int32.sub_eq_add_neg]; exact nI_pred m
      have e2 : m + 1 = 20 - d := by omega
      rw [e1]
      have := ih (d + 1) (by omega) g (by omega) (by omega)
      rw [← this, show v.wkS b N (d + 1) = (fun q => (v.wkS b N d q && alB b N (m + 1) q) || v.ar (fun q => v.wkS b N d q && alB b N (m + 1) q) q) from by rw [e2]; rfl]
  exact key 0 FU (by omega) (by have := FUb (n := 21) (by omega); omega)
theorem e_fill {a n : Nat} (hl : ln a = n) (hn : n < 60000) {x : Int32} : ∃ τ, J7_fill_53178 a x σ = some τ ∧ (∀ i, i < n → τ a i = x) ∧ ∀ c, c ≠ a → τ c = σ c := by
  unfold J7_fill_53178
  rw [hl, show (0 : Int32) = nI 0 from rfl]
  refine loop_P (L := fun f τ i => J7_fill_53178_5 f a x i (nI n) τ) (P := fun i τ => (∀ k, k < i → τ a k = x) ∧ ∀ c, c ≠ a → τ c = σ c) (Q := fun r => ∃ τ, r = some τ ∧ (∀ i, i < n → τ a i = x) ∧ ∀ c, c ≠ a → τ c = σ c) (n := n) (a := σ) (fun f τ hP => ?_) (fun f τ i hi hP => Or.inr ?_) (Nat.zero_le _) (FUb (by omega)) ⟨fun k h => absurd h (by omega), fun _ _ => rfl⟩
  · rw [J7_fill_53178_5, if_pos (nI_le (Nat.le_refl _) (by omega))]
    exact ⟨τ, rfl, hP.1, hP.2⟩
  · rw [J7_fill_53178_5, if_neg (nI_ge hi (by omega)), au_nI (by omega) (by omega), bd_s, nI_1]
    refine ⟨_, rfl, fun k hk => ?_, fun c hc => by rw [st_n hc]; exact hP.2 c hc⟩
    by_cases c : k = i
    · rw [c, st_at]
    · rw [st_at' c]; exact hP.1 k (by omega)
theorem e_places (W : WF v) (R : SC σ 9 v e) (hb : Byts σ (2 * N) b) (hT : 2 * N ≤ 400) (hr : ∀ i, i < N → b (2 * i) < v.n ∧ b (2 * i + 1) ≤ 20) : ∃ σ2, X5_placesAfterWalk 9 (nI (2 * N)) σ = some (mkB (v.wkE b N) v.n, σ2) ∧ ∀ c, c ≠ 393 → σ2 c = σ c := by
  have h9 := W.n9
  have l393 : ln 393 = 21 := by decide +kernel
  have l3 : ln (392 + 1) = 21 := l393
  obtain ⟨τ, t1, t2, t3⟩ := e_fill (σ := σ) l393 (by omega) (x := bitv v.n - 1)
  unfold X5_placesAfterWalk X6_fill
  rw [R.n, e_bit, bd_s, show (392 : Nat) + 1 = 393 from rfl, t1, bd_s, bd_s, mk_all v.n (by omega)]
  have walk : ∀ ρ : Mem, (∀ h, h ≤ 20 → ρ 393 h = mkB (alB b N h) v.n) → SC ρ 9 v e → X5_placesAfterWalk_77 FU 9 (mkB (fun _ => true) v.n) 20 ρ = some (mkB (v.wkE b N) v.n, ρ) := by
    intro ρ hA Rρ
    have key : ∀ (d g : Nat), d ≤ 20 → 21 < g + d → X5_placesAfterWalk_77 g 9 (mkB (v.wkS b N d) v.n) (nI (20 - d)) ρ = some (mkB (v.wkE b N) v.n, ρ) := by
      intro d
      induction hm : 20 - d generalizing d with
      | zero =>
        intro g hd hg
        have : d = 20 := by omega
        subst this
        obtain ⟨g, rfl⟩ : ∃ z, g = z + 1 := ⟨g - 1, by omega⟩
        rw [X5_placesAfterWalk_77, if_pos (show nI 0 ≤ 0 by decide), show (0 : Int32) = nI 0 from rfl, e_get (by rw [l3]; omega) (by rw [l3]; decide), bd_s, show ρ (392 + 1) 0 = _ from hA 0 (by omega), mk_and (by omega)]
        rfl
      | succ m ih =>
        intro g hd hg
        obtain ⟨g, rfl⟩ : ∃ z, g = z + 1 := ⟨g - 1, by omega⟩
        have e1 : nI (m + 1) + -1 = nI m := by rw [show (-1 : Int32) = -(nI 1) from rfl, ← Int32.sub_eq_add_neg]; exact nI_pred m
        have e2 : m + 1 = 20 - d := by omega
        rw [X5_placesAfterWalk_77, if_neg (show ¬ nI (m + 1) ≤ 0 from nI_nle (by omega) (by omega)), e_get (by rw [l3]; omega) (by rw [l3]; decide), bd_s, show ρ (392 + 1) (m + 1) = _ from hA (m + 1) (by omega), mk_and (by omega), e_around kd9' W Rρ, bd_s, mk_or (by omega), e1]
        have := ih (d + 1) (by omega) g (by omega) (by omega)
        rw [← this, show v.wkS b N (d + 1) = (fun q => (v.wkS b N d q && alB b N (m + 1) q) || v.ar (fun q => v.wkS b N d q && alB b N (m + 1) q) q) from by rw [e2]; rfl]
    exact key 0 FU (by omega) (by have := FUb (n := 21) (by omega); omega)
  rw [show (0 : Int32) = nI 2 * nI 0 from rfl]
  refine loop_P (L := fun f ρ i => X5_placesAfterWalk_23 f 9 (nI (2 * N)) (mkB (fun _ => true) v.n) (nI 2 * i) ρ) (P := fun i ρ => (∀ h, h ≤ 20 → ρ 393 h = mkB (alB b i h) v.n) ∧ ∀ c, c ≠ 393 → ρ c = σ c) (Q := fun r => ∃ σ2, r = some (mkB (v.wkE b N) v.n, σ2) ∧ ∀ c, c ≠ 393 → σ2 c = σ c) (n := N) (a := τ) (fun f ρ hP => ?_) (fun f ρ i hi hP => Or.inr ?_) (Nat.zero_le _) (FUb (by omega)) ⟨fun h hh => ?_, t3⟩
  · rw [X5_placesAfterWalk_23, nI_mul, if_pos (nI_le (Nat.le_refl _) (by omega)), walk ρ hP.1 (R.move fun c c1 c2 => hP.2 c (by omega))]
    exact ⟨ρ, rfl, hP.2⟩
  · obtain ⟨r1, r2⟩ := hr i hi
    have hbρ : Byts ρ (2 * N) b := hb.move (hP.2 3 (by decide)) (hP.2 404 (by decide))
    rw [X5_placesAfterWalk_23, nI_mul, if_neg (nI_ge (by omega) (by omega)), nI_1, e_byte hbρ hT (by omega), bd_s, e_get (by rw [l3]; omega) (by rw [l3]; decide), bd_s, e_byte hbρ hT (by omega), bd_s, e_bit, bd_s, e_set (by rw [l3]; omega) (by rw [l3]; decide), bd_s, show (2 : Int32) = nI 2 from rfl, nI_add]
    refine ⟨_, by rw [nI_mul, Nat.mul_succ], fun h hh => ?_, fun c hc => by rw [st_n hc]; exact hP.2 c hc⟩
    rw [show (392 : Nat) + 1 = 393 from rfl]
    by_cases c : h = b (2 * i + 1)
    · subst c
      rw [st_at, hP.1 _ hh, mk_and_x (by omega)]
      apply mk_congr
      intro q hq
      rw [alB_s, decide_eq_true rfl, Bool.not_true, Bool.false_or, hb_bit (by omega) (by omega)]
    · rw [st_at' c, hP.1 h hh]
      apply mk_congr
      intro q hq
      rw [alB_s, decide_eq_false (fun z => c z.symm), Bool.not_false, Bool.true_or, Bool.and_true]
  · rw [t2 h (by omega), mk_all v.n (by omega)]
    rfl
theorem r_29 (hC : Core (1000 * j) σ v L) (hR : Rest (1000 * j) σ v.txt) : ∃ σ3, lw_29 x1 x2 x3 x4 x5 σ = some (true, σ3) ∧ Inv (j + 1) σ3 := by
  obtain ⟨W, R, M, K, KT, Kl⟩ := id hC
  have h9 := W.n9
  obtain ⟨T, b, t1, t2, t3, t4⟩ := hR.2.1.byts
  have R1 : SC (st σ 1 1 0) 9 v (1000 * j) := R.move fun c c1 c2 => st_n (by omega)
  have b1 : Byts (st σ 1 1 0) T b := t4.move (st_n (by decide)) (st_n (by decide))
  have hMis : Mis (st σ 1 1 0) := ⟨fun i hi => by rw [st_n (by decide)]; exact hR.2.2.2.2.1 i hi, by rw [st_n (by decide)]; exact hR.2.2.2.2.2⟩
  have mB : ∀ ρ : Mem, SM (ρ 400) v → Byts ρ T b → ρ 399 8 = nI T → X12_whoLit ρ = X12_whoLit_24 (nI T) (b2i (!v.wks b T)) (st ρ 399 8 0) := by
    intro ρ M1 hb h8
    unfold X12_whoLit
    rw [pu_s, bd_s, h8, m_wks W (show SM ((st ρ 399 8 0) 400) v by rw [st_n (by decide)]; exact M1) (hb.move (st_n (by decide)) (st_n (by decide))) t1, bd_s]
    cases v.wks b T with
    | true => rw [if_neg (show ¬ b2i true = 0 by decide)]; rfl
    | false => rw [if_pos (show b2i false = 0 from rfl)]; rfl
  cases hrows : v.wks b T with
  | false =>
    have hA : L_whoLit σ = some (nI 1, st σ 1 1 0) := by
      unfold L_whoLit X11_whoLit X11_placesTold X10_useUp
      rw [pu_s, bd_s, bd2_s, t2, e_wks R1 h9 b1 t1, hrows, bd_s, if_pos (show b2i false = 0 from rfl), bdx2_r, bdx2_r]
      exact hx_1
    have hB : X12_whoLit (st σ 1 1 0) = some (nI 0, st (st (st σ 1 1 0) 399 8 0) 399 0 (nI 1)) := by
      rw [mB _ (show SM ((st σ 1 1 0) 400) v by rw [st_n (by decide)]; exact M) b1 (by rw [st_n (by decide)]; exact t3), hrows]
      unfold X12_whoLit_24
      rw [pu_s, bd_s, st_at, if_neg (by decide)]; rfl
    refine roadI (Bf := fun τ => X12_whoLit τ) hA hB st_at (fun h => absurd h n0) (use_inv hC hR (fun c hc => st_n (by omega)) hMis st_at (st_at' (by decide)) (fun c hc => by rw [st_n (by omega), st_n (by omega)]) (fun i hi => by rw [st_at' (by omega), st_at' (by omega)]) ?_ (by rw [st_at' (by decide), st_at]; rfl) (by rw [st_n (by decide), st_n (by decide)]))
    refine BO.th ?_
    unfold BO
    rw [st_at' (by decide), st_at' (by decide), st_n (by decide)]
    exact hR.1
  | true =>
    obtain ⟨c1, c2, c3⟩ := wks_t hrows
    have hN : T = 2 * (T / 2) := by omega
    generalize T / 2 = N at hN c3
    subst hN
    obtain ⟨τ, s1, s2⟩ := e_places W R1 b1 t1 c3
    have hA : L_whoLit σ = some (nI 0, st τ 411 0 (mkB (v.wkE b N) v.n)) := by
      unfold L_whoLit X11_whoLit X11_placesTold X10_useUp
      rw [pu_s, bd_s, bd2_s, t2, e_wks R1 h9 b1 t1, hrows, bd_s, if_neg (show ¬ b2i true = 0 by decide), s1, bd2_s, bdx2_l, bdx2_l]
      rfl
    generalize hρ : st τ 411 0 (mkB (v.wkE b N) v.n) = ρ at hA
    have f : ∀ c, c ≠ 1 → c ≠ 393 → c ≠ 411 → ρ c = σ c := fun c c1 c2 c3 => by rw [← hρ, st_n c3, s2 c c2, st_n c1]
    have M1 : SM (ρ 400) v := by rw [f 400 (by decide) (by decide) (by decide)]; exact M
    have b2 : Byts ρ (2 * N) b := t4.move (f 3 (by decide) (by decide) (by decide)) (f 404 (by decide) (by decide) (by decide))
    have M2 : SM ((st (st ρ 399 8 0) 399 0 (nI 0)) 400) v := by rw [st_n (by decide), st_n (by decide)]; exact M1
    have b3 : Byts (st (st ρ 399 8 0) 399 0 (nI 0)) (2 * N) b := b2.move (by rw [st_n (by decide), st_n (by decide)]) (by rw [st_n (by decide), st_n (by decide)])
    have hB : X12_whoLit ρ = some (mkB (v.wkE b N) v.n, st (st ρ 399 8 0) 399 0 (nI 0)) := by
      rw [mB ρ M1 b2 (by rw [f 399 (by decide) (by decide) (by decide)]; exact t3), hrows]
      unfold X12_whoLit_24
      rw [pu_s, bd_s, st_at, if_pos (by decide), show st (st ρ 399 8 0) 399 0 (b2i (!true)) = st (st ρ 399 8 0) 399 0 (nI 0) from rfl, m_places W M2 b3 t1 c3, bd_s]
    refine roadI (Bf := fun τ => X12_whoLit τ) hA hB st_at (fun h => ?_) (use_inv hC hR (σ1 := ρ) (fun c hc => f c (by omega) (by omega) (by omega)) ?_ ?_ ?_ (fun c hc => by rw [st_n (by omega), st_n (by omega)]) (fun i hi => by rw [st_at' (by omega), st_at' (by omega)]) ?_ (by rw [st_at' (by decide), st_at]; rfl) (by rw [st_n (by decide), st_n (by decide)]))
    · rw [st_n (by decide), st_n (by decide), ← hρ, st_at]
    · exact ⟨fun i hi => by rw [f 391 (by decide) (by decide) (by decide)]; exact hR.2.2.2.2.1 i hi, by rw [f 398 (by decide) (by decide) (by decide)]; exact hR.2.2.2.2.2⟩
    · rw [← hρ, st_n (by decide), s2 1 (by decide), st_at]; rfl
    · rw [← hρ, st_n (by decide), s2 1 (by decide), st_at' (by decide)]
    · refine BO.th ?_
      unfold BO
      rw [st_at' (by decide), st_at' (by decide), f 399 (by decide) (by decide) (by decide)]
      exact hR.1
end WHOLIT

/-! two sides -/
def smN (f : Nat → Nat) : Nat → Nat := iterN (fun a i => a + f i) 0
theorem smN_s {f : Nat → Nat} {n : Nat} : smN f (n + 1) = smN f n + f n := rfl
theorem smN_congr {f g : Nat → Nat} {n : Nat} (h : ∀ i, i < n → f i = g i) : smN f n = smN g n := by
  induction n with
  | zero => rfl
  | succ n ih => rw [smN_s, smN_s, ih (fun i hi => h i (by omega)), h n (by omega)]
theorem smN_add {f g : Nat → Nat} {n : Nat} : smN (fun i => f i + g i) n = smN f n + smN g n := by
  induction n with
  | zero => rfl
  | succ n ih => rw [smN_s, smN_s, smN_s, ih]; omega
theorem smN_0 {f : Nat → Nat} {n : Nat} (h : ∀ i, i < n → f i = 0) : smN f n = 0 := by
  induction n with
  | zero => rfl
  | succ n ih => rw [smN_s, ih (fun i hi => h i (by omega)), h n (by omega)]
theorem smN_le {f : Nat → Nat} {b n : Nat} (h : ∀ i, i < n → f i ≤ b) : smN f n ≤ n * b := by
  induction n with
  | zero => exact Nat.zero_le _
  | succ n ih =>
    have := ih (fun i hi => h i (by omega))
    have := h n (by omega)
    rw [smN_s, Nat.succ_mul]; omega
/-- over ordered pairs, and over each pair once -/
theorem pairs_sum (g : Nat → Nat → Nat) (hg : ∀ x, g x x = 0) : ∀ k, smN (fun x => smN (fun y => if x < y then g x y + g y x else 0) k) k = smN (fun x => smN (g x) k) k := by
  intro k
  induction k with
  | zero => rfl
  | succ k ih =>
    have e1 : smN (fun x => smN (g x) (k + 1)) (k + 1) = smN (fun x => smN (g x) k) k + smN (fun x => g x k) k + smN (g k) k := by
      rw [smN_s, smN_s, hg, show smN (fun x => smN (g x) (k + 1)) k = smN (fun x => smN (g x) k + g x k) k from smN_congr fun i _ => smN_s, smN_add]
      omega
    have e2 : smN (fun x => smN (fun y => if x < y then g x y + g y x else 0) (k + 1)) (k + 1) = smN (fun x => smN (fun y => if x < y then g x y + g y x else 0) k) k + smN (fun x => g x k + g k x) k := by
      rw [smN_s, show smN (fun x => smN (fun y => if x < y then g x y + g y x else 0) (k + 1)) k = smN (fun x => smN (fun y => if x < y then g x y + g y x else 0) k + (g x k + g k x)) k from smN_congr fun i hi => by rw [smN_s, if_pos hi], smN_add, smN_0 (n := k + 1) (fun i hi => by rw [if_neg (by omega)])]
      omega
    rw [e1, e2, ih, smN_add]
    omega
def sameS (S x y : Nat) : Bool := hb (nI S) x == hb (nI S) y
noncomputable def View.gS (v : View) (S x y : Nat) : Nat := if x = y then 0 else if sameS S x y = true then v.like x y else 0
noncomputable def View.tot (v : View) (S : Nat) : Nat := smN (fun x => smN (v.gS S x) v.k) v.k
noncomputable def View.bs (v : View) : Nat → Option Nat := iterN (fun a q => match a with
  | none => some (2 * (q + 1))
  | some x => if v.tot (2 * (q + 1)) ≤ v.tot x then some x else some (2 * (q + 1))) none
theorem on_lt_ {n : Nat} (h : n < 2 ^ 31) : (-1 : Int32) < nI n := (on_lt h).mpr trivial
section SIDES
variable {σ σ1 σ2 : Mem} {v u : View} {L : Lw} {j e S : Nat} {x1 x2 x3 x4 x5 : Int32}
theorem gS_9 (W : WF v) {x y : Nat} (hx : x < v.k) (hy : y < v.k) : v.gS S x y ≤ 9 := by
  unfold View.gS
  split
  · omega
  · split
    · exact W.like x y hx hy
    · omega
theorem row_le (W : WF v) {x : Nat} (hx : x < v.k) {m : Nat} (hm : m ≤ v.k) : smN (v.gS S x) m ≤ 54 := by
  have h6 := W.k6
  have := smN_le (f := v.gS S x) (b := 9) (n := m) (fun i hi => gS_9 W hx (by omega))
  omega
theorem tot_le (W : WF v) {m : Nat} (hm : m ≤ v.k) : smN (fun x => smN (v.gS S x) v.k) m ≤ 324 := by
  have h6 := W.k6
  have := smN_le (f := fun x => smN (v.gS S x) v.k) (b := 54) (n := m) (fun i hi => row_le W (by omega) (Nat.le_refl _))
  omega
theorem e_tot (W : WF v) (R : SC σ 9 v e) : X1_likesTogether σ 9 (nI S) = some (nI (v.tot S)) := by
  have h6 := W.k6
  unfold X1_likesTogether
  rw [show (0 : Int32) = nI 0 from rfl]
  refine loop_P (L := fun f (a : Int32) x => X1_likesTogether_5 σ f 9 (nI S) a x) (P := fun x a => a = nI (smN (fun x => smN (v.gS S x) v.k) x)) (Q := fun r => r = some (nI (v.tot S))) (n := v.k) (a := nI 0) (fun f a hP => ?_) (fun f a x hx hP => Or.inr ⟨nI (smN (fun x => smN (v.gS S x) v.k) (x + 1)), ?_, rfl⟩) (Nat.zero_le _) (FUb (by omega)) rfl
  · rw [X1_likesTogether_5, R.k, if_pos (nI_le (Nat.le_refl _) (by omega)), hP]; rfl
  · rw [X1_likesTogether_5, R.k, if_neg (nI_ge hx (by omega)), show (0 : Int32) = nI 0 from rfl]
    generalize hb0 : smN (fun x => smN (v.gS S x) v.k) x = base at hP
    refine loop_P (L := fun f2 (c : Int32) y => X1_likesTogether_17 σ (X1_likesTogether_5 σ f) f2 9 (nI S) c (nI x) y) (P := fun y c => c = nI (base + smN (v.gS S x) y)) (Q := fun r => r = X1_likesTogether_5 σ f 9 (nI S) (nI (smN (fun x => smN (v.gS S x) v.k) (x + 1))) (nI (x + 1))) (n := v.k) (a := a) (fun f2 c hc => ?_) (fun f2 c y hy hc => Or.inr ⟨nI (base + smN (v.gS S x) (y + 1)), ?_, rfl⟩) (Nat.zero_le _) (FUb (by omega)) (by rw [hP]; rfl)
    · rw [X1_likesTogether_17, R.k, if_pos (nI_le (Nat.le_refl _) (by omega)), nI_1, hc, smN_s, hb0]
    · have b2 : ∀ p q : Bool, (b2i p = b2i q) ↔ p = q := by intro p q; cases p <;> cases q <;> decide
      by_cases d : x = y
      · have hg : v.gS S x y = 0 := if_pos d
        rw [smN_s, hg, X1_likesTogether_17, R.k, if_neg (nI_ge hy (by omega)), if_pos (by rw [d]), hc, nI_1]
        rfl
      · rw [X1_likesTogether_17, R.k, if_neg (nI_ge hy (by omega)), if_neg (fun z => d (nI_inj (by omega) (by omega) z)), e_hasBit, bd_s, e_hasBit, bd_s, nI_1]
        by_cases d2 : hb (nI S) x = hb (nI S) y
        · have hg : v.gS S x y = v.like x y := by unfold View.gS sameS; rw [if_neg d, if_pos (by rw [d2]; simp)]
          rw [if_pos ((b2 _ _).mpr d2), e_likesOf kd9' W R hx hy d, bd_s, hc, nI_add, smN_s, hg, Nat.add_assoc]
        · have hg : v.gS S x y = 0 := by unfold View.gS sameS; rw [if_neg d, if_neg (by simpa using d2)]
          rw [if_neg (fun z => d2 ((b2 _ _).mp z)), hc, smN_s, hg]
          rfl
theorem m_tot (W : WF v) (M : SM (σ 400) v) {rc11 : Int32 → Int32 → Int32 → Mem → Option (Int32 × Mem)} {y1 y2 : Int32} : X12_sides_29 rc11 FU y1 y2 (nI S) 0 0 σ = if y2 < nI (v.tot S) then rc11 (nI S) (nI (v.tot S)) (nI S + 2) σ else rc11 y1 y2 (nI S + 2) σ := by
  have h6 := W.k6
  let h : Nat → Nat → Nat := fun x y => if x < y then v.gS S x y + v.gS S y x else 0
  have hE : smN (fun x => smN (h x) v.k) v.k = v.tot S := pairs_sum (v.gS S) (fun x => if_pos rfl) v.k
  rw [show (0 : Int32) = nI 0 from rfl]
  refine loop_P (L := fun f (a : Int32) x => X12_sides_29 rc11 f y1 y2 (nI S) a x σ) (P := fun x a => a = nI (smN (fun x => smN (h x) v.k) x)) (Q := fun r => r = if y2 < nI (v.tot S) then rc11 (nI S) (nI (v.tot S)) (nI S + 2) σ else rc11 y1 y2 (nI S + 2) σ) (n := v.k) (a := nI 0) (fun f a hP => ?_) (fun f a x hx hP => Or.inr ⟨nI (smN (fun x => smN (h x) v.k) (x + 1)), ?_, rfl⟩) (Nat.zero_le _) (FUb (by omega)) rfl
  · rw [X12_sides_29, show (4 : Int32) = nI 4 from rfl, a_k M, bd_s, if_pos (nI_le (Nat.le_refl _) (by omega)), hP, hE]
  · rw [X12_sides_29, show (4 : Int32) = nI 4 from rfl, a_k M, bd_s, if_neg (nI_ge hx (by omega)), nI_1]
    generalize hb0 : smN (fun x => smN (h x) v.k) x = base at hP
    refine loop_P (L := fun f2 (c : Int32) y => X12_sides_46 rc11 (X12_sides_29 rc11 f) f2 y1 y2 (nI S) c (nI x) y σ) (P := fun y c => x < y ∧ c = nI (base + smN (h x) y)) (Q := fun r => r = X12_sides_29 rc11 f y1 y2 (nI S) (nI (smN (fun x => smN (h x) v.k) (x + 1))) (nI (x + 1)) σ) (i0 := x + 1) (n := v.k) (a := a) (fun f2 c hc => ?_) (fun f2 c y hy hc => ?_) (by omega) (FUb (by omega)) ?_
    · rw [X12_sides_46, show (4 : Int32) = nI 4 from rfl, a_k M, bd_s, if_pos (nI_le (Nat.le_refl _) (by omega)), nI_1, hc.2, smN_s, hb0]
    · right
      refine ⟨nI (base + smN (h x) (y + 1)), ?_, by omega, rfl⟩
      have d : ¬ x = y := by omega
      have b2 : ∀ p q : Bool, (b2i p = b2i q) ↔ p = q := by intro p q; cases p <;> cases q <;> decide
      have hh : h x y = v.gS S x y + v.gS S y x := if_pos hc.1
      rw [X12_sides_46, show (4 : Int32) = nI 4 from rfl, a_k M, bd_s, if_neg (nI_ge hy (by omega)), e_isOf, bd_s, e_isOf, bd_s]
      unfold X12_sides_86
      by_cases d2 : hb (nI S) x = hb (nI S) y
      · have hg1 : v.gS S x y = v.like x y := by unfold View.gS sameS; rw [if_neg d, if_pos (by rw [d2]; simp)]
        have hg2 : v.gS S y x = v.like y x := by unfold View.gS sameS; rw [if_neg (fun z => d z.symm), if_pos (by rw [d2]; simp)]
        unfold X12_both
        rw [if_pos ((b2 _ _).mpr d2), m_liking W M hx hy, bd_s, m_liking W M hy hx, bd_s, bd_s, hc.2, nI_add, nI_add, nI_1, smN_s, hh, hg1, hg2, Nat.add_assoc]
      · have hg1 : v.gS S x y = 0 := by unfold View.gS sameS; rw [if_neg d, if_neg (by simpa using d2)]
        have hg2 : v.gS S y x = 0 := by unfold View.gS sameS; rw [if_neg (fun z => d z.symm), if_neg (by simpa using fun z => d2 z.symm)]
        rw [if_neg (fun z => d2 ((b2 _ _).mp z)), hc.2, smN_s, hh, hg1, hg2, nI_1, show (0 : Int32) = nI 0 from rfl, nI_add]
        rfl
    · refine ⟨by omega, ?_⟩
      rw [hP, smN_0 (n := x + 1) (fun i hi => if_neg (by omega))]; rfl
theorem tot_lt (W : WF v) : v.tot S ≤ 324 := tot_le W (Nat.le_refl _)
theorem pow6_ : ∀ k, k ≤ 6 → 2 ≤ k → 2 ^ k = 2 * 2 ^ (k - 1) ∧ 2 ^ k ≤ 64 ∧ 1 ≤ 2 ^ (k - 1) := by decide +kernel
theorem bs_lt {i x : Nat} (h : v.bs i = some x) : x < 2 * (i + 1) := by
  induction i generalizing x with
  | zero => cases h
  | succ i ih =>
    unfold View.bs at h ih
    rw [iterN] at h
    split at h
    · cases h; omega
    · rename_i y hy
      have := ih hy
      split at h <;> cases h <;> omega
theorem r_32 (hC : Core (1000 * j) σ v L) (hR : Rest (1000 * j) σ v.txt) : ∃ σ3, lw_32 x1 x2 x3 x4 x5 σ = some (true, σ3) ∧ Inv (j + 1) σ3 := by
  obtain ⟨W, R, M, -⟩ := id hC
  have h6 := W.k6
  have M2 : SM ((st σ 399 0 (nI 0)) 400) v := sm_th M
  let tv : Option Nat → Int32 := fun a => a.elim (-1) (fun x => nI (v.tot x))
  have pb : bitv v.k = nI (2 ^ v.k) := bit_pow_ v.k (by omega)
  by_cases ck : 2 ≤ v.k
  · obtain ⟨k1, k2, k3⟩ := pow6_ v.k h6 ck
    have bs_s : ∀ i, v.bs (i + 1) = match v.bs i with
      | none => some (2 * (i + 1))
      | some x => if v.tot (2 * (i + 1)) ≤ v.tot x then some x else some (2 * (i + 1)) := fun i => rfl
    have tl : ∀ (i : Nat) (f : Int32 → Int32 → Prop), True := fun _ _ => trivial
    have cmp : ∀ i a, a = v.bs i → ((tv a < nI (v.tot (2 * (i + 1)))) ↔ v.bs (i + 1) = some (2 * (i + 1)) ∧ (∀ x, a = some x → ¬ v.tot (2 * (i + 1)) ≤ v.tot x)) ∧ (¬ (tv a < nI (v.tot (2 * (i + 1)))) → v.bs (i + 1) = a) := by
      intro i a ha
      have t1 := tot_lt (S := 2 * (i + 1)) W
      rw [bs_s, ← ha]
      cases a with
      | none =>
        have : tv none < nI (v.tot (2 * (i + 1))) := by
          show (-1 : Int32) < _
          exact on_lt_ (by omega)
        exact ⟨⟨fun _ => ⟨rfl, fun x h => by cases h⟩, fun _ => this⟩, fun h => absurd this h⟩
      | some x =>
        have t2 := tot_lt (S := x) W
        show ((nI (v.tot x) < nI (v.tot (2 * (i + 1)))) ↔ _) ∧ (¬ (nI (v.tot x) < nI (v.tot (2 * (i + 1)))) → _)
        rw [nI_ltI (by omega) (by omega)]
        simp only
        by_cases c : v.tot (2 * (i + 1)) ≤ v.tot x
        · rw [if_pos c]
          exact ⟨⟨fun h => absurd h (by omega), fun h => absurd c (h.2 x rfl)⟩, fun _ => rfl⟩
        · rw [if_neg c]
          exact ⟨⟨fun _ => ⟨rfl, fun y h => by cases h; exact c⟩, fun _ => by omega⟩, fun h => absurd (by omega) h⟩
    refine rr0 hC hR (b := oI (v.bs (2 ^ (v.k - 1) - 1))) ?_ ?_
    · unfold X11_sides X1_secondSide
      rw [R.k, if_pos (show (2 : Int32) ≤ nI v.k from nI_le (a := 2) ck (by omega))]
      have : X1_secondSide_17 σ FU 9 (-1) (-1) 2 = some (oI (v.bs (2 ^ (v.k - 1) - 1))) := by
        rw [show (2 : Int32) = nI 2 * nI 0 + nI 2 from rfl]
        refine loop_P (L := fun f (a : Option Nat) i => X1_secondSide_17 σ f 9 (oI a) (tv a) (nI 2 * i + nI 2)) (P := fun i a => a = v.bs i) (Q := fun r => r = some (oI (v.bs (2 ^ (v.k - 1) - 1)))) (n := 2 ^ (v.k - 1) - 1) (a := none) (fun f a hP => ?_) (fun f a i hi hP => Or.inr ⟨v.bs (i + 1), ?_, rfl⟩) (Nat.zero_le _) (FUb (by omega)) rfl
        · rw [X1_secondSide_17, R.k, e_bit, bd_s, pb, nI_mul, nI_add, if_pos (nI_le (by omega) (by omega)), hP]
        · have ix : nI 2 * nI i + nI 2 = nI (2 * (i + 1)) := by rw [nI_mul, nI_add]; rfl
          have ix2 : nI 2 * nI (i + 1) + nI 2 = nI (2 * (i + 1)) + 2 := by rw [show (2 : Int32) = nI 2 from rfl, nI_mul]
          rw [ix, ix2, X1_secondSide_17, R.k, e_bit, bd_s, pb, if_neg (nI_ge (by omega) (by omega)), e_tot W R, bd_s]
          obtain ⟨q1, q2⟩ := cmp i a hP
          by_cases c : tv a < nI (v.tot (2 * (i + 1)))
          · rw [if_neg (Int32.not_le.mpr c), (q1.mp c).1]; rfl
          · rw [if_pos (Int32.not_lt.mp c), q2 c]
      rw [this, bd_s]
    · unfold X12_sides
      rw [pu_s, bd_s, show (2 : Int32) = nI 2 * nI 0 + nI 2 from rfl]
      refine loop_P (L := fun f (a : Option Nat) i => X12_sides_11 f (oI a) (tv a) (nI 2 * i + nI 2) (st σ 399 0 (nI 0))) (P := fun i a => a = v.bs i) (Q := fun r => r = some (oI (v.bs (2 ^ (v.k - 1) - 1)), st σ 399 0 (nI 0))) (n := 2 ^ (v.k - 1) - 1) (a := none) (fun f a hP => ?_) (fun f a i hi hP => Or.inr ⟨v.bs (i + 1), ?_, rfl⟩) (Nat.zero_le _) (FUb (by omega)) rfl
      · rw [X12_sides_11, show (4 : Int32) = nI 4 from rfl, a_k M2, bd_s, show (1 : Int32) <<< (nI v.k &&& 31) = bitv v.k from rfl, pb, nI_mul, nI_add, if_pos (nI_le (by omega) (by omega)), hP]
      · have ix : nI 2 * nI i + nI 2 = nI (2 * (i + 1)) := by rw [nI_mul, nI_add]; rfl
        have ix2 : nI 2 * nI (i + 1) + nI 2 = nI (2 * (i + 1)) + 2 := by rw [show (2 : Int32) = nI 2 from rfl, nI_mul]
        rw [ix, ix2, X12_sides_11, show (4 : Int32) = nI 4 from rfl, a_k M2, bd_s, show (1 : Int32) <<< (nI v.k &&& 31) = bitv v.k from rfl, pb, if_neg (nI_ge (by omega) (by omega)), m_tot W M2]
        obtain ⟨q1, q2⟩ := cmp i a hP
        by_cases c : tv a < nI (v.tot (2 * (i + 1)))
        · rw [if_pos c, (q1.mp c).1]; rfl
        · rw [if_neg c, q2 c]
  · have pk : 2 ^ v.k ≤ 2 := by
      have : v.k = 0 ∨ v.k = 1 := by omega
      rcases this with h | h <;> rw [h] <;> decide
    refine rr0 hC hR (b := -1) ?_ ?_
    · unfold X11_sides X1_secondSide
      rw [R.k, if_neg (show ¬ (2 : Int32) ≤ nI v.k from nI_ge (b := 2) (by omega) (by omega))]; rfl
    · unfold X12_sides
      obtain ⟨z, hz⟩ : ∃ z, FU = z + 1 := ⟨FU - 1, by rfl⟩
      rw [pu_s, bd_s, hz, X12_sides_11, show ag (st σ 399 0 0) 400 4 = _ from a_k M2, bd_s, show (1 : Int32) <<< (nI v.k &&& 31) = bitv v.k from rfl, pb, if_pos (show nI (2 ^ v.k) ≤ 2 from nI_le (b := 2) pk (by omega))]
      rfl
end SIDES

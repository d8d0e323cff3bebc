/-! walkers put two by two -/
/-- the first from y on, among the next m -/
def fs (c : Nat → Bool) : Nat → Nat → Option Nat
  | _, 0 => none
  | y, m + 1 => if c y = true then some y else fs c (y + 1) m
theorem fs_some {c : Nat → Bool} : ∀ (m y x : Nat), fs c y m = some x → y ≤ x ∧ x < y + m ∧ c x = true ∧ ∀ z, y ≤ z → z < x → c z = false := by
  intro m
  induction m with
  | zero => intro y x h; cases h
  | succ m ih =>
    intro y x h
    unfold fs at h
    split at h
    · rename_i hc
      cases h
      exact ⟨Nat.le_refl _, by omega, hc, fun z h1 h2 => by omega⟩
    · rename_i hc
      obtain ⟨a, b, d, e⟩ := ih (y + 1) x h
      refine ⟨by omega, by omega, d, fun z h1 h2 => ?_⟩
      by_cases hz : z = y
      · subst hz; simpa using hc
      · exact e z (by omega) h2
theorem fs_none {c : Nat → Bool} : ∀ (m y : Nat), fs c y m = none → ∀ z, y ≤ z → z < y + m → c z = false := by
  intro m
  induction m with
  | zero => intro y h z h1 h2; omega
  | succ m ih =>
    intro y h z h1 h2
    unfold fs at h
    split at h
    · cases h
    · rename_i hc
      by_cases hz : z = y
      · subst hz; simpa using hc
      · exact ih (y + 1) h z (by omega) (by omega)
def low (S : Nat) : Nat := (fs S.testBit 0 9).getD 0
theorem bit_ex {S n : Nat} (h : S < 2 ^ n) (h0 : 0 < S) : ∃ i, i < n ∧ S.testBit i = true := by
  apply Classical.byContradiction
  intro hne
  have : S = 0 := by
    apply Nat.eq_of_testBit_eq
    intro i
    rw [Nat.zero_testBit]
    by_cases c : i < n
    · cases hb : S.testBit i with
      | false => rfl
      | true => exact absurd ⟨i, c, hb⟩ hne
    · exact Nat.testBit_lt_two_pow (Nat.lt_of_lt_of_le h (Nat.pow_le_pow_right (by decide) (by omega)))
  omega
theorem low_fs {S n : Nat} (hn : n ≤ 9) (h : S < 2 ^ n) (h0 : 0 < S) : fs S.testBit 0 9 = some (low S) := by
  unfold low
  cases hf : fs S.testBit 0 9 with
  | some x => rfl
  | none =>
    obtain ⟨i, i1, i2⟩ := bit_ex h h0
    have := fs_none 9 0 hf i (Nat.zero_le _) (by omega)
    rw [i2] at this
    cases this
theorem low_lt {S n : Nat} (hn : n ≤ 9) (h : S < 2 ^ n) (h0 : 0 < S) : low S < n ∧ S.testBit (low S) = true ∧ ∀ z, z < low S → S.testBit z = false := by
  obtain ⟨a, b, c, d⟩ := fs_some 9 0 _ (low_fs hn h h0)
  refine ⟨?_, c, fun z hz => d z (Nat.zero_le _) hz⟩
  by_cases q : low S < n
  · exact q
  · have := Nat.testBit_lt_two_pow (x := S) (i := low S) (Nat.lt_of_lt_of_le h (Nat.pow_le_pow_right (by decide) (by omega)))
    rw [this] at c
    cases c
theorem low_is {S n x : Nat} (hn : n ≤ 9) (h : S < 2 ^ n) (hx : S.testBit x = true) (hz : ∀ z, z < x → S.testBit z = false) : low S = x := by
  have h0 : 0 < S := by
    rcases Nat.eq_zero_or_pos S with z | z
    · subst z; simp at hx
    · exact z
  obtain ⟨a, b, c⟩ := low_lt hn h h0
  rcases Nat.lt_trichotomy (low S) x with q | q | q
  · rw [hz _ q] at b; cases b
  · exact q
  · rw [c _ q] at hx; cases hx
theorem low_loop {σ : Mem} {S n : Nat} (hn : n ≤ 9) (h : S < 2 ^ n) (h0 : 0 < S) : X11_lowest σ (nI S) = some (nI (low S)) ∧ X12_lowest σ (nI S) = some (nI (low S)) := by
  have hS : S < 512 := Nat.lt_of_lt_of_le h (by have := pow9_ n hn; omega)
  have key : ∀ (m i fuel : Nat), i + m = 9 → m < fuel → fs S.testBit i m = some (low S) → X11_lowest_2 σ fuel (nI S) (nI i) = some (nI (low S)) ∧ X12_lowest_2 σ fuel (nI S) (nI i) = some (nI (low S)) := by
    intro m
    induction m with
    | zero => intro i fuel _ _ h; cases h
    | succ m ih =>
      intro i fuel hi hf hs
      obtain ⟨fuel, rfl⟩ : ∃ z, fuel = z + 1 := ⟨fuel - 1, by omega⟩
      unfold fs at hs
      rw [X11_lowest_2, X12_lowest_2, if_neg (show ¬ (9 : Int32) ≤ nI i from nI_ge (b := 9) (by omega) (by omega)), e_hasBit, bd_s, e_isOf, bd_s, hb_nI (by omega) (by omega), nI_1]
      cases hc : S.testBit i with
      | true =>
        rw [hc, if_pos rfl] at hs
        cases hs
        rw [if_neg (show ¬ b2i true = 0 by decide), if_neg (show ¬ b2i true = 0 by decide)]
        exact ⟨rfl, rfl⟩
      | false =>
        rw [hc, if_neg (by decide)] at hs
        rw [if_pos (show b2i false = 0 from rfl), if_pos (show b2i false = 0 from rfl)]
        exact ih (i + 1) fuel (by omega) (by omega) hs
  unfold X11_lowest X12_lowest
  exact key 9 0 FU rfl (FUb (by omega)) (low_fs hn h h0)
theorem rm_nI_ : ∀ S, S < 512 → ∀ l, l < 9 → S.testBit l = true → nI S &&& (bitv l ^^^ (-1 : Int32)) = nI (S - 2 ^ l) ∧ 2 ^ l ≤ S := by decide +kernel
theorem rm_bit_ : ∀ S, S < 512 → ∀ l, l < 9 → S.testBit l = true → ∀ i, i < 9 → (S - 2 ^ l).testBit i = (S.testBit i && decide (i ≠ l)) := by decide +kernel
def rm (S l : Nat) : Nat := S - 2 ^ l
theorem rm_le (S l : Nat) : rm S l ≤ S := Nat.sub_le _ _
theorem rm_lt {S l : Nat} (h0 : 0 < S) : rm S l < S := by
  have := Nat.two_pow_pos l
  unfold rm
  omega
/-! the table -/
noncomputable def View.ok (v : View) (x y : Nat) : Bool := (v.far (v.pl x) (v.pl y)).isSome
noncomputable def View.bo (v : View) (x y : Nat) : Nat := v.like x y + v.like y x
noncomputable def View.ws (v : View) (t : Nat → Nat) (S l : Nat) (a x : Nat) : Nat := if l < x ∧ S.testBit x = true ∧ v.ok l x = true then max a (v.bo l x + t (rm (rm S l) x)) else a
noncomputable def View.nw (v : View) (t : Nat → Nat) (S : Nat) : Nat := iterN (v.ws t S (low S)) (t (rm S (low S))) v.k
noncomputable def View.tb (v : View) : Nat → Nat → Nat := iterN (fun t i s => if s = i + 1 then v.nw t (i + 1) else t s) (fun _ => 0)
theorem ws_le {v : View} (W : WF v) {t : Nat → Nat} {S B l m a : Nat} (ht : ∀ s, s < S → t s ≤ B) (hS : 0 < S) (hl : l < v.k) (hm : m ≤ v.k) (ha : a ≤ B + 18) : iterN (v.ws t S l) a m ≤ B + 18 := by
  have key : ∀ m, m ≤ v.k → iterN (v.ws t S l) a m ≤ B + 18 := by
    intro m
    induction m with
    | zero => intro _; exact ha
    | succ m ih =>
      intro hm
      have h1 := ih (by omega)
      rw [iterN]
      unfold View.ws View.bo
      split
      · have a1 := W.like l m hl (by omega)
        have a2 := W.like m l (by omega) hl
        have a3 := rm_lt (l := l) hS
        have a4 : rm (rm S l) m < S := by have := rm_le (rm S l) m; omega
        have a5 := ht _ a4
        unfold View.ws View.bo at h1
        omega
      · exact h1
  exact key m hm
theorem tb_s {v : View} {i s : Nat} : v.tb (i + 1) s = if s = i + 1 then v.nw (v.tb i) (i + 1) else v.tb i s := rfl
theorem tb_hi {v : View} : ∀ {i s : Nat}, i < s → v.tb i s = 0 := by
  intro i
  induction i with
  | zero => intro s _; rfl
  | succ i ih => intro s h; rw [tb_s, if_neg (by omega), ih (by omega)]
theorem tb_le {v : View} (W : WF v) : ∀ i, i < 2 ^ v.k → ∀ s, v.tb i s ≤ 18 * i := by
  have h6 := W.k6
  intro i
  induction i with
  | zero => intro _ s; exact Nat.zero_le _
  | succ i ih =>
    intro hi s
    have h := ih (by omega)
    rw [tb_s]
    split
    · obtain ⟨l1, -⟩ := low_lt (by omega) hi (by omega)
      have := ws_le (t := v.tb i) (S := i + 1) (B := 18 * i) (l := low (i + 1)) (m := v.k) (a := v.tb i (rm (i + 1) (low (i + 1)))) W (fun s _ => h s) (by omega) l1 (Nat.le_refl _) (by have := h (rm (i + 1) (low (i + 1))); omega)
      unfold View.nw
      omega
    · have := h s; omega
theorem ws_0 {v : View} {t : Nat → Nat} {S l a : Nat} : ∀ m, m ≤ l + 1 → iterN (v.ws t S l) a m = a := by
  intro m
  induction m with
  | zero => intro _; rfl
  | succ m ih => intro h; rw [iterN, ih (by omega)]; unfold View.ws; rw [if_neg (by omega)]
section PAIRS
variable {σ σ1 : Mem} {v : View} {L : Lw} {j e S : Nat} {x1 x2 x3 x4 x5 : Int32}
theorem pl_lt (W : WF v) {x : Nat} (hx : x < v.k) : v.pl x < v.n := W.pl x hx
theorem e_arePair (W : WF v) (R : SC σ 9 v e) {x y : Nat} (hx : x < v.k) (hy : y < v.k) : X1_arePair σ 9 (nI x) (nI y) = some (b2i (v.ok x y)) := by
  unfold X1_arePair
  rw [show X6_get σ (9 + 9) (nI x) = _ from g_pl kd9' W R hx, bd_s, show X6_get σ (9 + 9) (nI y) = _ from g_pl kd9' W R hy, bd_s, e_far kd9' W R (pl_lt W hx) (pl_lt W hy), bd_s]
  unfold View.ok
  cases h : v.far (v.pl x) (v.pl y) with
  | none => rw [if_pos (show oI none = -1 from rfl)]; rfl
  | some d =>
    have := far_lt h
    rw [if_neg (show ¬ oI (some d) = -1 from nI_m1 (by omega))]; rfl
theorem m_mayPair (W : WF v) (M : SM (σ 400) v) {x y : Nat} (hx : x < v.k) (hy : y < v.k) : X12_mayPair σ (nI x) (nI y) = some (b2i (v.ok x y)) := by
  unfold X12_mayPair
  rw [show (0 : Int32) = nI 0 from rfl, o_pl W M hx, bd_s, o_pl W M hy, bd_s, m_far W M (pl_lt W hx) (pl_lt W hy), bd_s]
  unfold View.ok
  cases h : v.far (v.pl x) (v.pl y) with
  | none => rw [if_pos (show oI none = -1 from rfl)]; rfl
  | some d =>
    have := far_lt h
    rw [if_neg (show ¬ oI (some d) = -1 from nI_m1 (by omega))]; rfl
theorem m_both (W : WF v) (M : SM (σ 400) v) {x y : Nat} (hx : x < v.k) (hy : y < v.k) : X12_both σ (nI x) (nI y) = some (nI (v.bo x y)) := by
  unfold X12_both
  rw [m_liking W M hx hy, bd_s, m_liking W M hy hx, bd_s, nI_add]; rfl
theorem pow6k : ∀ k, k ≤ 6 → 1 ≤ 2 ^ k ∧ 2 ^ k ≤ 64 := by decide +kernel
/-- component and reference look a set's best up -/
def TB (σ : Mem) (c : Nat) (t : Nat → Nat) (i : Nat) : Prop := ∀ s, s ≤ i → s < 64 → σ c s = nI (t s)
theorem tb_get {t : Nat → Nat} {i : Nat} (h : TB σ 398 t i) (h1 : S ≤ i) (h2 : S < 64) : X6_get σ 397 (nI S) = some (nI (t S)) := by
  rw [e_get (show S < ln 398 from h2) (by decide), h S h1 h2]
theorem tb_ag {t : Nat → Nat} {i : Nat} (h : TB σ 408 t i) (h1 : S ≤ i) (h2 : S < 64) : ag σ 408 (nI S) = some (nI (t S)) := by
  rw [ag_nI (show S < ln 408 from h2) (by omega), h S h1 h2]
theorem e_mostWith (W : WF v) (R : SC σ 9 v e) {t : Nat → Nat} {i l x : Nat} (hT : TB σ 398 t i) (hS : S < 64) (hi : S ≤ i + 1) (hl : l < v.k) (hx : x < v.k) (hlx : l < x) (s1 : S.testBit l = true) (s2 : S.testBit x = true) : X1_mostWith σ 9 (nI S) (nI l) (nI x) = some (nI (v.bo l x + t (rm (rm S l) x))) := by
  have h6 := W.k6
  have p1 := Nat.two_pow_pos l
  have q1 := rm_le S l
  have q2 := rm_le (rm S l) x
  have q3 := rm_lt (S := S) (l := l)
  have b1 := rm_nI_ S (by omega) l (by omega) s1
  have b3 := b1.2
  have t1 : (rm S l).testBit x = true := by unfold rm; rw [rm_bit_ S (by omega) l (by omega) s1 x (by omega), s2, decide_eq_true (by omega)]; rfl
  have b2 := rm_nI_ (rm S l) (by omega) x (by omega) t1
  unfold X1_mostWith
  rw [e_likesOf kd9' W R hl hx (by omega), bd_s, e_likesOf kd9' W R hx hl (by omega), bd_s, e_bit, bd_s, e_bit, bd_s, b1.1, show S - 2 ^ l = rm S l from rfl, b2.1, show rm S l - 2 ^ x = rm (rm S l) x from rfl, tb_get hT (by omega) (by omega), bd_s, nI_add, nI_add]; rfl
theorem e_mbp40 (W : WF v) (R : SC σ 9 v e) {rc : Nat → Int32 → Mem → Option (Int32 × Mem)} {i : Nat} (hT : TB σ 398 (v.tb i) i) (hi : i + 1 < 2 ^ v.k) : X1_mostByPairs_40 rc FU 9 (nI (i + 1)) (nI (low (i + 1))) (nI (v.tb i (rm (i + 1) (low (i + 1))))) (nI (low (i + 1)) + 1) σ = rc 9 (nI (i + 1 + 1)) (st σ 398 (i + 1) (nI (v.nw (v.tb i) (i + 1)))) := by
  have h6 := W.k6
  obtain ⟨k1, k2⟩ := pow6k v.k h6
  obtain ⟨l1, l2, l3⟩ := low_lt (n := v.k) (by omega) hi (by omega)
  rw [nI_1]
  refine loop_P (L := fun f (a : Int32) x => X1_mostByPairs_40 rc f 9 (nI (i + 1)) (nI (low (i + 1))) a x σ) (P := fun x a => a = nI (iterN (v.ws (v.tb i) (i + 1) (low (i + 1))) (v.tb i (rm (i + 1) (low (i + 1)))) x) ∧ low (i + 1) < x) (Q := fun r => r = rc 9 (nI (i + 1 + 1)) (st σ 398 (i + 1) (nI (v.nw (v.tb i) (i + 1))))) (n := v.k) (a := nI (v.tb i (rm (i + 1) (low (i + 1))))) (fun f a hP => ?_) (fun f a x hx hP => Or.inr ⟨nI (iterN (v.ws (v.tb i) (i + 1) (low (i + 1))) (v.tb i (rm (i + 1) (low (i + 1)))) (x + 1)), ?_, rfl, by omega⟩) (by omega) (FUb (by omega)) ⟨by rw [ws_0 _ (Nat.le_refl _)], by omega⟩
  · rw [X1_mostByPairs_40, R.k, if_pos (nI_le (Nat.le_refl _) (by omega)), hP.1, e_set (show i + 1 < ln 398 from by show i + 1 < 64; omega) (by decide), bd_s, nI_1]; rfl
  · rw [X1_mostByPairs_40, R.k, if_neg (nI_ge hx (by omega)), e_hasBit, hb_nI (by omega) (by omega), bd_s, iterN]
    generalize ha0 : iterN (v.ws (v.tb i) (i + 1) (low (i + 1))) (v.tb i (rm (i + 1) (low (i + 1)))) x = a0 at hP
    have hle : a0 ≤ 18 * i + 18 := by
      rw [← ha0]
      have h := tb_le W i (by omega)
      exact ws_le W (fun s _ => h s) (by omega) l1 (by omega) (by have := h (rm (i + 1) (low (i + 1))); omega)
    unfold View.ws
    cases c1 : (i + 1).testBit x with
    | false => rw [if_pos (show b2i false = 0 from rfl), if_neg (by simp), hP.1, nI_1]
    | true =>
      rw [if_neg (show ¬ b2i true = 0 by decide), e_arePair W R l1 hx, bd_s]
      cases c2 : v.ok (low (i + 1)) x with
      | false => rw [if_pos (show b2i false = 0 from rfl), if_neg (by simp), hP.1, nI_1]
      | true =>
        rw [if_neg (show ¬ b2i true = 0 by decide), if_pos ⟨hP.2, rfl, rfl⟩, e_mostWith W R hT (by omega) (Nat.le_refl _) l1 hx hP.2 l2 c1, bd_s, nI_1, hP.1]
        have hb := tb_le W i (by omega) (rm (rm (i + 1) (low (i + 1))) x)
        have a1 := W.like (low (i + 1)) x l1 hx
        have a2 := W.like x (low (i + 1)) hx l1
        congr 1
        unfold View.bo
        by_cases c : a0 < v.like (low (i + 1)) x + v.like x (low (i + 1)) + v.tb i (rm (rm (i + 1) (low (i + 1))) x)
        · rw [if_pos ((nI_ltI (by omega) (by omega)).mpr c), Nat.max_eq_right (by omega)]
        · rw [if_neg (fun z => c ((nI_ltI (by omega) (by omega)).mp z)), Nat.max_eq_left (by omega)]
def EqBut (σ σ1 : Mem) (k : Nat) : Prop := ∀ c, c ≠ k → σ1 c = σ c
theorem e_mbp (W : WF v) (R : SC σ 9 v e) (hM : Mis σ) : ∃ σ1, X1_mostByPairs 9 σ = some (nI (v.tb (2 ^ v.k - 1) (2 ^ v.k - 1)), σ1) ∧ EqBut σ σ1 398 ∧ σ1 398 0 = 0 ∧ TB σ1 398 (v.tb (2 ^ v.k - 1)) (2 ^ v.k - 1) := by
  have h6 := W.k6
  obtain ⟨k1, k2⟩ := pow6k v.k h6
  have pb : bitv v.k = nI (2 ^ v.k) := bit_pow_ v.k (by omega)
  unfold X1_mostByPairs
  rw [show (1 : Int32) = nI 0 + 1 from rfl]
  refine loop_P (L := fun f (a : Mem) x => X1_mostByPairs_2 f 9 (x + 1) a) (P := fun i a => EqBut σ a 398 ∧ TB a 398 (v.tb i) i) (Q := fun r => ∃ σ1, r = some (nI (v.tb (2 ^ v.k - 1) (2 ^ v.k - 1)), σ1) ∧ EqBut σ σ1 398 ∧ σ1 398 0 = 0 ∧ TB σ1 398 (v.tb (2 ^ v.k - 1)) (2 ^ v.k - 1)) (n := 2 ^ v.k - 1) (a := σ) (fun f a hP => ?_) (fun f a i hi hP => Or.inr ⟨st a 398 (i + 1) (nI (v.nw (v.tb i) (i + 1))), ?_, ?_, ?_⟩) (Nat.zero_le _) (FUb (by omega)) ⟨fun c _ => rfl, fun s h1 _ => by rw [show s = 0 by omega, hM.2]; rfl⟩
  · have R1 : SC a 9 v e := R.move fun c h1 h2 => hP.1 c (by omega)
    refine ⟨a, ?_, hP.1, ?_, hP.2⟩
    · rw [X1_mostByPairs_2, R1.k, e_bit, bd_s, pb, nI_1, if_pos (nI_le (by omega) (by omega)), bd_s, show nI (2 ^ v.k) - (1 : Int32) = nI (2 ^ v.k - 1) from by rw [← pb]; exact all_nI_ _ (by omega), tb_get hP.2 (Nat.le_refl _) (by omega), bd_s]
    · rw [hP.2 0 (Nat.zero_le _) (by omega)]
      have : v.tb (2 ^ v.k - 1) 0 = 0 := by
        have : ∀ i, v.tb i 0 = 0 := by
          intro i
          induction i with
          | zero => rfl
          | succ i ih => rw [tb_s, if_neg (by omega), ih]
        exact this _
      rw [this]; rfl
  · have R1 : SC a 9 v e := R.move fun c h1 h2 => hP.1 c (by omega)
    obtain ⟨l1, l2, l3⟩ := low_lt (S := i + 1) (n := v.k) (by omega) (by omega) (by omega)
    have b1 := rm_nI_ (i + 1) (by omega) (low (i + 1)) (by omega) l2
    have r1 := rm_lt (S := i + 1) (l := low (i + 1)) (by omega)
    rw [X1_mostByPairs_2, R1.k, e_bit, bd_s, pb, nI_1, if_neg (nI_ge (by omega) (by omega)), (low_loop (n := v.k) (by omega) (by omega) (by omega)).1, bd_s, e_bit, bd_s, b1.1, show i + 1 - 2 ^ low (i + 1) = rm (i + 1) (low (i + 1)) from rfl, tb_get hP.2 (by omega) (by omega), bd_s]
    exact (e_mbp40 W R1 hP.2 (by omega)).trans (by rw [nI_1])
  · exact fun c hc => by rw [st_n hc]; exact hP.1 c hc
  · intro s h1 h2
    rw [tb_s]
    by_cases c : s = i + 1
    · rw [if_pos c, c, st_at]
    · rw [if_neg c, st_at' c, hP.2 s (by omega) h2]
theorem m_ab51 (W : WF v) (M : SM (σ 400) v) {rc : Int32 → Mem → Option Mem} {i : Nat} {Q : Option Mem → Prop} (hT : TB σ 408 (v.tb i) i) (hi : i + 1 < 2 ^ v.k) (hq : ∀ σ1, EqBut σ σ1 408 → TB σ1 408 (v.tb (i + 1)) (i + 1) → Q (rc (nI (i + 1 + 1)) σ1)) : Q (X12_allBest_51 rc FU (nI (i + 1)) (nI (low (i + 1))) (nI (rm (i + 1) (low (i + 1)))) (nI (low (i + 1)) + 1) (st σ 408 (i + 1) (nI (v.tb i (rm (i + 1) (low (i + 1))))))) := by
  have h6 := W.k6
  obtain ⟨k1, k2⟩ := pow6k v.k h6
  obtain ⟨l1, l2, l3⟩ := low_lt (n := v.k) (by omega) hi (by omega)
  have b1 := rm_nI_ (i + 1) (by omega) (low (i + 1)) (by omega) l2
  have r1 := rm_lt (S := i + 1) (l := low (i + 1)) (by omega)
  rw [nI_1]
  refine loop_P (L := fun f (a : Mem) x => X12_allBest_51 rc f (nI (i + 1)) (nI (low (i + 1))) (nI (rm (i + 1) (low (i + 1)))) x a) (P := fun x a => EqBut σ a 408 ∧ TB a 408 (v.tb i) i ∧ a 408 (i + 1) = nI (iterN (v.ws (v.tb i) (i + 1) (low (i + 1))) (v.tb i (rm (i + 1) (low (i + 1)))) x) ∧ low (i + 1) < x) (Q := Q) (n := v.k) (a := st σ 408 (i + 1) (nI (v.tb i (rm (i + 1) (low (i + 1)))))) (fun f a hP => ?_) (fun f a x hx hP => Or.inr ?_) (by omega) (FUb (by omega)) ⟨fun c hc => by rw [st_n hc], fun s h1 h2 => by rw [st_at' (by omega), hT s h1 h2], by rw [st_at, ws_0 _ (Nat.le_refl _)], by omega⟩
  · obtain ⟨p1, p2, p3, p4⟩ := hP
    have M1 : SM (a 400) v := by rw [p1 400 (by decide)]; exact M
    rw [X12_allBest_51, show (4 : Int32) = nI 4 from rfl, a_k M1, bd_s, if_pos (nI_le (Nat.le_refl _) (by omega)), nI_1]
    refine hq a p1 fun s h1 h2 => ?_
    rw [tb_s]
    by_cases c : s = i + 1
    · rw [if_pos c, c, p3]; rfl
    · rw [if_neg c, p2 s (by omega) h2]
  · obtain ⟨p1, p2, p3, p4⟩ := hP
    have M1 : SM (a 400) v := by rw [p1 400 (by decide)]; exact M
    have rb : (rm (i + 1) (low (i + 1))).testBit x = (i + 1).testBit x := by
      unfold rm
      rw [rm_bit_ (i + 1) (by omega) _ (by omega) l2 x (by omega), decide_eq_true (by omega), Bool.and_true]
    rw [X12_allBest_51, show (4 : Int32) = nI 4 from rfl, a_k M1, bd_s, if_neg (nI_ge hx (by omega)), e_isOf, hb_nI (by omega) (by omega), rb, bd_s]
    generalize ha0 : iterN (v.ws (v.tb i) (i + 1) (low (i + 1))) (v.tb i (rm (i + 1) (low (i + 1)))) x = a0 at p3
    have hle : a0 ≤ 18 * i + 18 := by
      rw [← ha0]
      have h := tb_le W i (by omega)
      exact ws_le W (fun s _ => h s) (by omega) l1 (by omega) (by have := h (rm (i + 1) (low (i + 1))); omega)
    rw [iterN, ha0]
    cases c1 : (i + 1).testBit x with
    | false => exact ⟨a, by rw [if_pos (show b2i false = 0 from rfl), nI_1], p1, p2, by unfold View.ws; rw [if_neg (by rw [c1]; simp), p3], by omega⟩
    | true =>
      rw [if_neg (show ¬ b2i true = 0 by decide), m_mayPair W M1 l1 hx, bd_s]
      cases c2 : v.ok (low (i + 1)) x with
      | false => exact ⟨a, by rw [if_pos (show b2i false = 0 from rfl), nI_1], p1, p2, by unfold View.ws; rw [if_neg (by rw [c2]; simp), p3], by omega⟩
      | true =>
        have b2 := rm_nI_ (rm (i + 1) (low (i + 1))) (by omega) x (by omega) (by rw [rb, c1])
        have hb := tb_le W i (by omega) (rm (rm (i + 1) (low (i + 1))) x)
        have a1 := W.like (low (i + 1)) x l1 hx
        have a2 := W.like x (low (i + 1)) hx l1
        have hbo : v.bo (low (i + 1)) x = v.like (low (i + 1)) x + v.like x (low (i + 1)) := rfl
        refine ⟨st a 408 (i + 1) (nI (max a0 (v.bo (low (i + 1)) x + v.tb i (rm (rm (i + 1) (low (i + 1))) x)))), ?_, fun c hc => by rw [st_n hc, p1 c hc], fun s h1 h2 => by rw [st_at' (by omega), p2 s h1 h2], ?_, by omega⟩
        · rw [if_neg (show ¬ b2i true = 0 by decide), ag_nI (show i + 1 < ln 408 from by show i + 1 < 64; omega) (by omega), bd_s, m_both W M1 l1 hx, bd_s, show (1 : Int32) <<< (nI x &&& 31) = bitv x from rfl, b2.1, show rm (i + 1) (low (i + 1)) - 2 ^ x = rm (rm (i + 1) (low (i + 1))) x from rfl, tb_ag p2 (by have := rm_le (rm (i + 1) (low (i + 1))) x; omega) (by have := rm_le (rm (i + 1) (low (i + 1))) x; omega), bd_s, nI_add, p3, m_greater (by omega) (by omega), bd_s, au_nI (show i + 1 < ln 408 from by show i + 1 < 64; omega) (by omega), bd_s, nI_1]
        · rw [st_at]; unfold View.ws; rw [if_pos ⟨p4, c1, c2⟩]
theorem m_allBest (W : WF v) (M : SM (σ 400) v) : ∃ σ1, X12_allBest σ = some σ1 ∧ EqBut σ σ1 408 ∧ TB σ1 408 (v.tb (2 ^ v.k - 1)) (2 ^ v.k - 1) := by
  have h6 := W.k6
  obtain ⟨k1, k2⟩ := pow6k v.k h6
  have pb : bitv v.k = nI (2 ^ v.k) := bit_pow_ v.k (by omega)
  unfold X12_allBest
  rw [show (0 : Int32) = nI 0 from rfl, au_nI (show 0 < ln 408 from by decide) (by omega), bd_s]
  have key : ∀ (m i fuel : Nat) (a : Mem), i + m = 2 ^ v.k - 1 → m < fuel → EqBut σ a 408 → TB a 408 (v.tb i) i → ∃ σ1, X12_allBest_9 fuel (nI (i + 1)) a = some σ1 ∧ EqBut σ σ1 408 ∧ TB σ1 408 (v.tb (2 ^ v.k - 1)) (2 ^ v.k - 1) := by
    intro m
    induction m with
    | zero =>
      intro i fuel a hi hf p1 p2
      obtain ⟨fuel, rfl⟩ : ∃ z, fuel = z + 1 := ⟨fuel - 1, by omega⟩
      have M1 : SM (a 400) v := by rw [p1 400 (by decide)]; exact M
      have : i = 2 ^ v.k - 1 := by omega
      subst this
      refine ⟨a, ?_, p1, p2⟩
      rw [X12_allBest_9, show (4 : Int32) = nI 4 from rfl, a_k M1, bd_s, show (1 : Int32) <<< (nI v.k &&& 31) = bitv v.k from rfl, pb, if_pos (nI_le (by omega) (by omega))]
    | succ m ih =>
      intro i fuel a hi hf p1 p2
      obtain ⟨fuel, rfl⟩ : ∃ z, fuel = z + 1 := ⟨fuel - 1, by omega⟩
      have M1 : SM (a 400) v := by rw [p1 400 (by decide)]; exact M
      obtain ⟨l1, l2, l3⟩ := low_lt (S := i + 1) (n := v.k) (by omega) (by omega) (by omega)
      have b1 := rm_nI_ (i + 1) (by omega) (low (i + 1)) (by omega) l2
      have r1 := rm_lt (S := i + 1) (l := low (i + 1)) (by omega)
      rw [X12_allBest_9, show (4 : Int32) = nI 4 from rfl, a_k M1, bd_s, show (1 : Int32) <<< (nI v.k &&& 31) = bitv v.k from rfl, pb, if_neg (nI_ge (by omega) (by omega)), (low_loop (n := v.k) (by omega) (by omega) (by omega)).2, bd_s, bd_s, show (1 : Int32) <<< (nI (low (i + 1)) &&& 31) = bitv (low (i + 1)) from rfl, b1.1, show i + 1 - 2 ^ low (i + 1) = rm (i + 1) (low (i + 1)) from rfl, tb_ag p2 (by omega) (by omega), bd_s, au_nI (show i + 1 < ln 408 from by show i + 1 < 64; omega) (by omega), bd_s]
      refine m_ab51 W M1 p2 (by omega) (Q := fun r => ∃ σ1, r = some σ1 ∧ EqBut σ σ1 408 ∧ TB σ1 408 (v.tb (2 ^ v.k - 1)) (2 ^ v.k - 1)) fun σ1 q1 q2 => ?_
      exact ih (i + 1) fuel σ1 (by omega) (by omega) (fun c hc => by rw [q1 c hc, p1 c hc]) q2
  have := key (2 ^ v.k - 1) 0 FU (st σ 408 0 (nI 0)) (by omega) (FUb (by omega)) (fun c hc => by rw [st_n hc]) (fun s h1 h2 => by rw [show s = 0 by omega, st_at]; rfl)
  exact this
/-! who is put with whom -/
noncomputable def View.pc (v : View) (t : Nat → Nat) (S l x : Nat) : Bool := S.testBit x && (v.ok l x && decide (v.bo l x + t (rm (rm S l) x) = t S))
noncomputable def View.pr (v : View) (t : Nat → Nat) (S l : Nat) : Option Nat := if t (rm S l) = t S then none else fs (v.pc t S l) (l + 1) (v.k - (l + 1))
theorem pr_some {t : Nat → Nat} {l x : Nat} (h : v.pr t S l = some x) : l < x ∧ x < v.k ∧ S.testBit x = true := by
  unfold View.pr at h
  split at h
  · cases h
  · obtain ⟨a, b, c, d⟩ := fs_some _ _ _ h
    unfold View.pc at c
    refine ⟨by omega, by omega, ?_⟩
    cases hs : S.testBit x with
    | true => rfl
    | false => rw [hs] at c; cases c
theorem e_first (W : WF v) (R : SC σ 9 v e) {t : Nat → Nat} (hT : TB σ 398 t (2 ^ v.k - 1)) (hb : ∀ s, t s ≤ 1200) {l : Nat} (hS : S < 2 ^ v.k) (hl : l < v.k) (s1 : S.testBit l = true) : X1_firstPartner σ 9 (nI S) (nI l) = some (oI (v.pr t S l)) := by
  have h6 := W.k6
  obtain ⟨k1, k2⟩ := pow6k v.k h6
  have b1 := rm_nI_ S (by omega) l (by omega) s1
  unfold X1_firstPartner View.pr
  rw [e_bit, bd_s, b1.1, show S - 2 ^ l = rm S l from rfl, tb_get hT (by have := rm_le S l; omega) (by have := rm_le S l; omega), bd_s, tb_get hT (by omega) (by omega), bd_s]
  have hb1 := hb (rm S l)
  have hb2 := hb S
  by_cases c : t (rm S l) = t S
  · rw [if_pos (by rw [c]), if_pos c]; rfl
  · rw [if_neg (fun z => c (nI_inj (by omega) (by omega) z)), if_neg c, nI_1]
    have key : ∀ (m y fuel : Nat), y + m = v.k → m < fuel → l < y → X1_firstPartner_33 σ fuel 9 (nI S) (nI l) (nI y) = some (oI (fs (v.pc t S l) y m)) := by
      intro m
      induction m with
      | zero =>
        intro y fuel hy hf _
        obtain ⟨fuel, rfl⟩ : ∃ z, fuel = z + 1 := ⟨fuel - 1, by omega⟩
        rw [X1_firstPartner_33, R.k, if_pos (nI_le (by omega) (by omega))]; rfl
      | succ m ih =>
        intro y fuel hy hf hly
        obtain ⟨fuel, rfl⟩ : ∃ z, fuel = z + 1 := ⟨fuel - 1, by omega⟩
        have ih := ih (y + 1) fuel (by omega) (by omega) (by omega)
        rw [X1_firstPartner_33, R.k, if_neg (nI_ge (by omega) (by omega)), e_hasBit, hb_nI (by omega) (by omega), bd_s, nI_1, ih, fs]
        unfold View.pc
        cases c1 : S.testBit y with
        | false => rw [if_pos (show b2i false = 0 from rfl), Bool.false_and, if_neg (by decide)]
        | true =>
          rw [if_neg (show ¬ b2i true = 0 by decide), e_arePair W R hl (by omega), bd_s]
          cases c2 : v.ok l y with
          | false => rw [if_pos (show b2i false = 0 from rfl), Bool.false_and, Bool.and_false, if_neg (by decide)]
          | true =>
            have hb3 := hb (rm (rm S l) y)
            have a1 := W.like l y hl (by omega)
            have a2 := W.like y l (by omega) hl
            have hbo : v.bo l y = v.like l y + v.like y l := rfl
            rw [if_neg (show ¬ b2i true = 0 by decide), e_mostWith W R hT (by omega) (by omega) hl (by omega) hly s1 c1, bd_s, tb_get hT (by omega) (by omega), bd_s, Bool.true_and, Bool.true_and]
            by_cases c3 : v.bo l y + t (rm (rm S l) y) = t S
            · rw [if_pos (by rw [c3]), decide_eq_true c3, if_pos rfl]; rfl
            · rw [if_neg (fun z => c3 (nI_inj (by omega) (by omega) z)), decide_eq_false c3, if_neg (by decide)]
    exact key (v.k - (l + 1)) (l + 1) FU (by omega) (FUb (by omega)) (by omega)
theorem m_first (W : WF v) (M : SM (σ 400) v) {rc : Int32 → Int32 → Mem → Option (Int32 × Mem)} {t : Nat → Nat} (hT : TB σ 408 t (2 ^ v.k - 1)) (hb : ∀ s, t s ≤ 1200) {l : Nat} (hS : S < 2 ^ v.k) (hl : l < v.k) (s1 : S.testBit l = true) : X12_pairs_89 rc FU x1 (nI S) (nI l) (nI (rm S l)) (-1) (nI v.k - 1) σ = X12_pairs_172 rc x1 (nI l) (nI (rm S l)) (oI (v.pr t S l)) σ := by
  have h6 := W.k6
  obtain ⟨k1, k2⟩ := pow6k v.k h6
  have b1 := rm_nI_ S (by omega) l (by omega) s1
  have g1 : ag σ 408 (nI (rm S l)) = some (nI (t (rm S l))) := tb_ag hT (by have := rm_le S l; omega) (by have := rm_le S l; omega)
  have g2 : ag σ 408 (nI S) = some (nI (t S)) := tb_ag hT (by omega) (by omega)
  have hb1 := hb (rm S l)
  have hb2 := hb S
  have hr : rm S l < 64 := by have := rm_le S l; omega
  obtain ⟨m0, hm0⟩ : ∃ m0, v.k = l + 1 + m0 := ⟨v.k - (l + 1), by omega⟩
  have hk1 : nI v.k - 1 = nI (l + m0) := by rw [show v.k = (l + m0) + 1 by omega]; exact nI_pred _
  rw [hk1]
  unfold View.pr
  by_cases c : t (rm S l) = t S
  · obtain ⟨z, hz⟩ : ∃ z, FU = z + 1 := ⟨FU - 1, by rfl⟩
    rw [if_pos c, hz, X12_pairs_89, g1, bd_s, g2, bd_s, if_pos (show nI (t (rm S l)) = nI (t S) by rw [c])]
    split <;> rfl
  · rw [if_neg c]
    have key : ∀ (m fuel : Nat), m ≤ m0 → m < fuel → X12_pairs_89 rc fuel x1 (nI S) (nI l) (nI (rm S l)) (oI (fs (v.pc t S l) (l + m + 1) (m0 - m))) (nI (l + m)) σ = X12_pairs_172 rc x1 (nI l) (nI (rm S l)) (oI (fs (v.pc t S l) (l + 1) m0)) σ := by
      intro m
      induction m with
      | zero =>
        intro fuel hm hf
        obtain ⟨fuel, rfl⟩ : ∃ z, fuel = z + 1 := ⟨fuel - 1, by omega⟩
        rw [X12_pairs_89, if_pos (nI_le (by omega) (by omega))]; rfl
      | succ m ih =>
        intro fuel hm hf
        obtain ⟨fuel, rfl⟩ : ∃ z, fuel = z + 1 := ⟨fuel - 1, by omega⟩
        have ih := ih fuel (by omega) (by omega)
        have rb : (rm S l).testBit (l + (m + 1)) = S.testBit (l + (m + 1)) := by
          unfold rm
          rw [rm_bit_ S (by omega) _ (by omega) s1 _ (by omega), decide_eq_true (by omega), Bool.and_true]
        have dn : nI (l + (m + 1)) + -1 = nI (l + m) := nI_m1p (by omega)
        rw [show m0 - m = (m0 - (m + 1)) + 1 by omega, fs, show l + m + 1 + 1 = l + (m + 1) + 1 by omega, show l + m + 1 = l + (m + 1) by omega] at ih
        rw [← ih, X12_pairs_89, if_neg (nI_ge (by omega) (by omega)), g1, bd_s, g2, bd_s, if_neg (fun z => c (nI_inj (by omega) (by omega) z)), e_isOf, hb_nI (by omega) (by omega), rb, bd_s, dn]
        have hpc : v.pc t S l (l + (m + 1)) = (S.testBit (l + (m + 1)) && (v.ok l (l + (m + 1)) && decide (v.bo l (l + (m + 1)) + t (rm (rm S l) (l + (m + 1))) = t S))) := rfl
        cases c1 : S.testBit (l + (m + 1)) with
        | false => rw [if_pos (show b2i false = 0 from rfl), hpc, c1, Bool.false_and, if_neg (by decide)]
        | true =>
          rw [if_neg (show ¬ b2i true = 0 by decide), m_mayPair W M hl (by omega), bd_s]
          cases c2 : v.ok l (l + (m + 1)) with
          | false => rw [if_pos (show b2i false = 0 from rfl), hpc, c1, c2, Bool.false_and, Bool.and_false, if_neg (by decide)]
          | true =>
            have b2 := rm_nI_ (rm S l) (by omega) (l + (m + 1)) (by omega) (by rw [rb, c1])
            have hb3 := hb (rm (rm S l) (l + (m + 1)))
            have a1 := W.like l (l + (m + 1)) hl (by omega)
            have a2 := W.like (l + (m + 1)) l (by omega) hl
            have hbo : v.bo l (l + (m + 1)) = v.like l (l + (m + 1)) + v.like (l + (m + 1)) l := rfl
            rw [if_neg (show ¬ b2i true = 0 by decide), m_both W M hl (by omega), bd_s, show (1 : Int32) <<< (nI (l + (m + 1)) &&& 31) = bitv (l + (m + 1)) from rfl, b2.1, show rm S l - 2 ^ (l + (m + 1)) = rm (rm S l) (l + (m + 1)) from rfl, tb_ag hT (by have := rm_le (rm S l) (l + (m + 1)); have := rm_le S l; omega) (by have := rm_le (rm S l) (l + (m + 1)); omega), bd_s, bd_s, nI_add, hpc, c1, c2, Bool.true_and, Bool.true_and]
            by_cases c3 : v.bo l (l + (m + 1)) + t (rm (rm S l) (l + (m + 1))) = t S
            · rw [if_pos (by rw [c3]), decide_eq_true c3, if_pos rfl]; rfl
            · rw [if_neg (fun z => c3 (nI_inj (by omega) (by omega) z)), decide_eq_false c3, if_neg (by decide)]
    have := key m0 FU (Nat.le_refl _) (FUb (by omega))
    rw [show m0 - m0 = 0 by omega] at this
    rw [show v.k - (l + 1) = m0 by omega]
    exact this
theorem both_walk {τ : Mem} (W : WF v) (R : SC σ 9 v e) (M : SM (τ 400) v) {t : Nat → Nat} (hT : TB σ 398 t (2 ^ v.k - 1)) (hT2 : TB τ 408 t (2 ^ v.k - 1)) (hb : ∀ s, t s ≤ 1200) {w : Nat} (hw : w < v.k) : ∀ (m i f1 f2 S : Nat), i + m = v.k → m < f1 → m < f2 → S < 2 ^ v.k → (∀ z, z < i → S.testBit z = false) → ∃ r, X1_partnerOf_19 f1 9 (nI w) (nI S) (nI i) σ = some (r, σ) ∧ X12_pairs_58 f2 (nI w) (nI S) τ = some (r, τ) := by
  have h6 := W.k6
  obtain ⟨k1, k2⟩ := pow6k v.k h6
  intro m
  induction m with
  | zero =>
    intro i f1 f2 S hi h1 h2 hS hz
    obtain ⟨f1, rfl⟩ : ∃ z, f1 = z + 1 := ⟨f1 - 1, by omega⟩
    obtain ⟨f2, rfl⟩ : ∃ z, f2 = z + 1 := ⟨f2 - 1, by omega⟩
    have : S = 0 := by
      rcases Nat.eq_zero_or_pos S with z | z
      · exact z
      · obtain ⟨q, q1, q2⟩ := bit_ex hS z
        rw [hz q (by omega)] at q2; cases q2
    subst this
    exact ⟨-1, by rw [X1_partnerOf_19, R.k, if_pos (nI_le (by omega) (by omega))], by rw [X12_pairs_58, if_pos (show nI 0 = 0 from rfl)]⟩
  | succ m ih =>
    intro i f1 f2 S hi h1 h2 hS hz
    obtain ⟨f1, rfl⟩ : ∃ z, f1 = z + 1 := ⟨f1 - 1, by omega⟩
    rw [X1_partnerOf_19, R.k, if_neg (nI_ge (by omega) (by omega)), e_hasBit, hb_nI (by omega) (by omega), bd_s]
    cases c1 : S.testBit i with
    | false =>
      rw [if_pos (show b2i false = 0 from rfl), nI_1]
      exact ih (i + 1) f1 f2 S (by omega) (by omega) (by omega) hS fun z h => by
        by_cases q : z = i
        · rw [q, c1]
        · exact hz z (by omega)
    | true =>
      obtain ⟨f2, rfl⟩ : ∃ z, f2 = z + 1 := ⟨f2 - 1, by omega⟩
      have hlow : low S = i := low_is (n := v.k) (by omega) hS c1 hz
      have b1 := rm_nI_ S (by omega) i (by omega) c1
      have hp2 := Nat.two_pow_pos i
      have rb : ∀ z, z < 9 → (rm S i).testBit z = (S.testBit z && decide (z ≠ i)) := fun z hz => rm_bit_ S (by omega) i (by omega) c1 z hz
      rw [if_neg (show ¬ b2i true = 0 by decide), e_first W R hT hb hS (by omega) c1, bd_s, X12_pairs_58, if_neg (show ¬ nI S = 0 from fun z => (by omega : ¬ S = 0) (nI_inj (b := 0) (by omega) (by omega) z)), (low_loop (n := v.k) (by omega) hS (by omega)).2, hlow, bd_s, bd_s, show (1 : Int32) <<< (nI i &&& 31) = bitv i from rfl, b1.1, show S - 2 ^ i = rm S i from rfl, show (4 : Int32) = nI 4 from rfl, a_k M, bd_s, m_first W M hT2 hb hS (by omega) c1]
      unfold X12_pairs_172 X12_pairs_208
      by_cases d1 : i = w
      · exact ⟨oI (v.pr t S i), by rw [if_pos (by rw [d1])], by rw [if_pos (by rw [d1])]⟩
      · have d1' : ¬ nI i = nI w := fun z => d1 (nI_inj (by omega) (by omega) z)
        rw [if_neg d1', if_neg d1']
        by_cases d2 : oI (v.pr t S i) = nI w
        · exact ⟨nI i, by rw [if_pos d2], by rw [if_pos d2]⟩
        · rw [if_neg d2, if_neg d2, e_bit, bd_s, b1.1, show S - 2 ^ i = rm S i from rfl, nI_1]
          have hr : rm S i < 2 ^ v.k := by have := rm_le S i; omega
          cases hp : v.pr t S i with
          | none =>
            rw [if_pos (show oI none = -1 from rfl), if_pos (show oI none = -1 from rfl)]
            refine ih (i + 1) f1 f2 (rm S i) (by omega) (by omega) (by omega) hr fun z h => ?_
            rw [rb z (by omega)]
            by_cases q : z = i
            · rw [q, decide_eq_false (by omega), Bool.and_false]
            · rw [hz z (by omega)]; rfl
          | some p =>
            obtain ⟨p1, p2, p3⟩ := pr_some hp
            have t1 : (rm S i).testBit p = true := by rw [rb p (by omega), p3, decide_eq_true (by omega)]; rfl
            have b2 := rm_nI_ (rm S i) (by omega) p (by omega) t1
            have hn : ¬ oI (some p) = -1 := nI_m1 (by omega)
            rw [if_neg hn, if_neg hn, show oI (some p) = nI p from rfl, e_bit, bd_s, bd_s, show (1 : Int32) <<< (nI p &&& 31) = bitv p from rfl, b2.1]
            refine ih (i + 1) f1 f2 (rm S i - 2 ^ p) (by omega) (by omega) (by omega) (Nat.lt_of_le_of_lt (Nat.sub_le _ _) hr) fun z h => ?_
            rw [rm_bit_ (rm S i) (by omega) p (by omega) t1 z (by omega), rb z (by omega)]
            by_cases q : z = i
            · rw [q, decide_eq_false (by omega), Bool.and_false, Bool.false_and]
            · rw [hz z (by omega)]; rfl
theorem r_33 (hC : Core (1000 * j) σ v L) (hR : Rest (1000 * j) σ v.txt) : ∃ σ3, lw_33 x1 x2 x3 x4 x5 σ = some (true, σ3) ∧ Inv (j + 1) σ3 := by
  obtain ⟨W, R, M, K, KT, Kl⟩ := id hC
  have h6 := W.k6
  obtain ⟨k1, k2⟩ := pow6k v.k h6
  have hb : ∀ s, v.tb (2 ^ v.k - 1) s ≤ 1200 := fun s => by have := tb_le W (2 ^ v.k - 1) (by omega) s; omega
  obtain ⟨τ, t1, t2, t3, t4⟩ := e_mbp W R hR.2.2.2.2
  have f : FrC σ τ := ⟨fun c hc => t2 c (by omega), fun i hi => by rw [t2 391 (by decide)]; exact hR.2.2.2.2.1 i hi, t3⟩
  have pb : bitv v.k = nI (2 ^ v.k) := bit_pow_ v.k (by omega)
  have al : nI (2 ^ v.k) - (1 : Int32) = nI (2 ^ v.k - 1) := by rw [← pb]; exact all_nI_ _ (by omega)
  have ok : ∀ {ρ σ1 : Mem}, BO ρ → EqBut ρ σ1 408 → Ok ρ σ1 := fun hb h => by
    refine ⟨⟨fun c hc => h c (by omega), fun i _ => by rw [h 399 (by decide)], ?_⟩, h 400 (by decide), by rw [h 399 (by decide)]⟩
    unfold BO
    rw [h 399 (by decide)]
    exact hb
  have Rt : SC τ 9 v (1000 * j) := R.move fun c h1 h2 => t2 c (by omega)
  by_cases c0 : x1 = -1
  · subst c0
    refine rqM (σ1 := τ) hC hR (r := nI (v.tb (2 ^ v.k - 1) (2 ^ v.k - 1))) f ?_ (fun ρ hρ M1 M2 hbo => ?_)
    · unfold L_pairs X11_pairs
      rw [if_pos rfl, t1, bd2_s, bdx2_l]; rfl
    · unfold X12_pairs X12_pairs_18 X12_pairs_19
      rw [if_pos rfl, pu_s, bd_s, st_at, if_pos (by decide)]
      obtain ⟨ρ2, r1, r2, r3⟩ := m_allBest W M2
      have M3 : SM (ρ2 400) v := by rw [r2 400 (by decide)]; exact M2
      rw [show (0 : Int32) = nI 0 from rfl, r1, bd_s, show (4 : Int32) = nI 4 from rfl, a_k M3, bd_s, if_pos rfl, show (1 : Int32) <<< (nI v.k &&& 31) = bitv v.k from rfl, pb, al, tb_ag r3 (Nat.le_refl _) (by omega), bd_s]
      exact ⟨ρ2, rfl, ok hbo r2⟩
  · by_cases c1 : isP v.k x1 = true
    · obtain ⟨w, w1, rfl⟩ := isP_t (by omega) c1
      have key : ∀ (ρ2 : Mem), SM (ρ2 400) v → TB ρ2 408 (v.tb (2 ^ v.k - 1)) (2 ^ v.k - 1) → ∃ r, X1_partnerOf_19 FU 9 (nI w) (nI (2 ^ v.k - 1)) (nI 0) τ = some (r, τ) ∧ X12_pairs_58 FU (nI w) (nI (2 ^ v.k - 1)) ρ2 = some (r, ρ2) := fun ρ2 M3 r3 => both_walk W Rt M3 t4 r3 hb w1 v.k 0 FU FU (2 ^ v.k - 1) (by omega) (FUb (by omega)) (FUb (by omega)) (by omega) (fun z h => by omega)
      obtain ⟨ρ0, q1, q2, q3⟩ := m_allBest W M
      obtain ⟨r, a1, a2⟩ := key ρ0 (by rw [q2 400 (by decide)]; exact M) q3
      refine rqM (σ1 := τ) hC hR (r := r) f ?_ (fun ρ hρ M1 M2 hbo => ?_)
      · unfold L_pairs X11_pairs
        rw [if_neg c0, e_needWalker R, if_pos c1, bdx_l]
        unfold X1_partnerOf
        rw [t1, bd2_s, Rt.k, e_bit, bd_s, pb, al, show (0 : Int32) = nI 0 from rfl, a1, bd2_s, bdx2_l]
      · unfold X12_pairs X12_pairs_18 X12_pairs_19
        rw [if_neg c0, m_isWalker W M1, c1, bd_s, if_neg (show ¬ b2i true = 0 by decide), pu_s, bd_s, st_at, if_pos (by decide)]
        obtain ⟨ρ2, r1, r2, r3⟩ := m_allBest W M2
        have M3 : SM (ρ2 400) v := by rw [r2 400 (by decide)]; exact M2
        obtain ⟨r', b1, b2⟩ := key ρ2 M3 r3
        rw [a1] at b1
        have : r = r' := congrArg (fun (z : Option (Int32 × Mem)) => (z.getD (0, τ)).1) b1
        subst this
        rw [show (0 : Int32) = nI 0 from rfl, r1, bd_s, show (4 : Int32) = nI 4 from rfl, a_k M3, bd_s, if_neg c0, show (1 : Int32) <<< (nI v.k &&& 31) = bitv v.k from rfl, pb, al, b2]
        exact ⟨ρ2, rfl, ok hbo r2⟩
    · rw [Bool.not_eq_true] at c1
      refine rqT hC hR (k := nI 1) (r := nI 0) n0 ?_ ?_
      · unfold L_pairs X11_pairs
        rw [if_neg c0, e_needWalker R, c1, if_neg (by decide), bdx_r, bdx2_r, hx_1]
      · unfold X12_pairs X12_pairs_18 X12_pairs_19
        rw [if_neg c0, m_isWalker W M, c1, bd_s, if_pos (show b2i false = 0 from rfl), pu_s, bd_s, st_at, if_neg (by decide)]; rfl
end PAIRS

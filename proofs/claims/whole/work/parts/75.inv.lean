/-! what holds between two calls -/
def Tape (σ : Mem) : Prop := (∃ T, T ≤ 400 ∧ σ 1 1 = nI T ∧ σ 399 8 = nI T ∧ ∀ k, k < T → σ 3 k = σ 404 k ∧ ∃ y, y < 256 ∧ σ 3 k = nI y) ∧ σ 1 6 = σ 399 12
def Hist (e : Nat) (σ : Mem) (t : Nat → Int32) : Prop := ∃ nx K, nx < 12 ∧ K ≤ 12 ∧ σ 111 1 = nI nx ∧ σ 111 2 = nI K ∧ σ 399 6 = nI K ∧ ∀ i, i < K → ∃ u : View, WF u ∧ u.txt = t ∧ SC σ (113 + 21 * ((nx + 12 - K + i) % 12)) u e ∧ SM (fun k => if k < 488 then σ 403 (488 * i + k) else t k) u
def Imag (e : Nat) (σ : Mem) : Prop := ∃ im : Bool, σ 0 7 = b2i im ∧ σ 399 3 = b2i im ∧ (im = true → ∃ (u : View) (L : Lw), WF u ∧ SC σ 51 u e ∧ SM (σ 401) u ∧ LC σ 98 L ∧ LT u.txt L ∧ σ 98 0 = u.txt 1) ∧ ∀ i, 888 ≤ i → σ 401 i = 0
def Mis (σ : Mem) : Prop := (∀ i, i < 9 → σ 391 i = 0) ∧ σ 398 0 = 0
def Core (e : Nat) (σ : Mem) (v : View) (L : Lw) : Prop := WF v ∧ SC σ 9 v e ∧ SM (σ 400) v ∧ LC σ 72 L ∧ LT v.txt L ∧ σ 72 0 = v.txt 1
def Rest (e : Nat) (σ : Mem) (t : Nat → Int32) : Prop := BO σ ∧ Tape σ ∧ Hist e σ t ∧ Imag e σ ∧ Mis σ
def Inv (j : Nat) (σ : Mem) : Prop := ∃ (v : View) (L : Lw), Core (1000 * j) σ v L ∧ Rest (1000 * j) σ v.txt
/-- what a call of the component leaves as it was -/
def FrC (σ σ1 : Mem) : Prop := (∀ c, c < 30 ∨ (51 ≤ c ∧ c < 82) ∨ (98 ≤ c ∧ c < 366) ∨ (399 ≤ c ∧ c < 411) → σ1 c = σ c) ∧ Mis σ1
/-- what a call of the reference leaves as it was, its row aside -/
def FrM (σ σ1 : Mem) : Prop := (∀ c, c < 399 ∨ c = 401 ∨ c = 403 ∨ c = 404 ∨ c = 411 → σ1 c = σ c) ∧ (∀ i, i = 3 ∨ i = 6 ∨ i = 8 ∨ i = 12 → σ1 399 i = σ 399 i) ∧ BO σ1
section INV
variable {σ σ1 σ2 : Mem} {v : View} {L : Lw} {e j : Nat} {t : Nat → Int32}
theorem FrC.of (hM : Mis σ) (h : ∀ c, c ≠ 82 → c ≠ 84 → (c < 366 ∨ 387 ≤ c) → (c < 30 ∨ 51 ≤ c) → c ≠ 411 → σ1 c = σ c) : FrC σ σ1 := by
  refine ⟨fun c hc => h c (by omega) (by omega) (by omega) (by omega) (by omega), fun i hi => ?_, ?_⟩
  · rw [h 391 (by decide) (by decide) (by decide) (by decide) (by decide)]; exact hM.1 i hi
  · rw [h 398 (by decide) (by decide) (by decide) (by decide) (by decide)]; exact hM.2
theorem FrC.refl (hM : Mis σ) : FrC σ σ := FrC.of hM fun _ _ _ _ _ _ => rfl
theorem FrC.out (h : FrC σ σ1) {x : Int32} : FrC σ (st σ1 411 0 x) := by
  refine ⟨fun c hc => by rw [st_n (by omega)]; exact h.1 c hc, fun i hi => ?_, ?_⟩
  · rw [st_n (by decide)]; exact h.2.1 i hi
  · rw [st_n (by decide)]; exact h.2.2
theorem MF.toM (h : MF σ σ1) (h400 : σ1 400 = σ 400 ∨ True) : FrM σ σ1 := ⟨fun c hc => h.1 c (by omega) (by omega) (by omega), fun i hi => h.2.1 i (by omega), h.2.2⟩
theorem FrM.refl (h : BO σ) : FrM σ σ := ⟨fun _ _ => rfl, fun _ _ => rfl, h⟩
theorem FrM.trans (h : FrM σ σ1) (h2 : FrM σ1 σ2) : FrM σ σ2 := ⟨fun c hc => by rw [h2.1 c hc, h.1 c hc], fun i hi => by rw [h2.2.1 i hi, h.2.1 i hi], h2.2.2⟩
theorem FrM.th (h : BO σ) {x : Int32} : FrM σ (st σ 399 0 x) := by
  refine ⟨fun c hc => by rw [st_n (by omega)], fun i hi => by rw [st_at' (by omega)], ?_⟩
  unfold BO
  rw [st_at' (by decide), st_at' (by decide)]
  exact h
theorem BO.th (h : BO σ) {x : Int32} : BO (st σ 399 0 x) := (FrM.th h).2.2
theorem Core.mono (h : Core e σ v L) {e2 : Nat} (he : e ≤ e2) : Core e2 σ v L := ⟨h.1, h.2.1.mono he, h.2.2⟩
theorem Hist.mono (h : Hist e σ t) {e2 : Nat} (he : e ≤ e2) : Hist e2 σ t := by
  obtain ⟨nx, K, h1, h2, h3, h4, h5, h6⟩ := h
  exact ⟨nx, K, h1, h2, h3, h4, h5, fun i hi => by obtain ⟨u, u1, u2, u3, u4⟩ := h6 i hi; exact ⟨u, u1, u2, u3.mono he, u4⟩⟩
theorem Imag.mono (h : Imag e σ) {e2 : Nat} (he : e ≤ e2) : Imag e2 σ := by
  obtain ⟨im, h1, h2, h3, h4⟩ := h
  exact ⟨im, h1, h2, fun q => by obtain ⟨u, L, u1, u2, u3⟩ := h3 q; exact ⟨u, L, u1, u2.mono he, u3⟩, h4⟩
theorem Hist.move (h : Hist e σ t) (h1 : ∀ c, 111 ≤ c → c < 366 → σ2 c = σ c) (h2 : σ2 399 6 = σ 399 6) (h3 : σ2 403 = σ 403) : Hist e σ2 t := by
  obtain ⟨nx, K, a1, a2, a3, a4, a5, a6⟩ := h
  refine ⟨nx, K, a1, a2, by rw [h1 111 (by decide) (by decide)]; exact a3, by rw [h1 111 (by decide) (by decide)]; exact a4, by rw [h2]; exact a5, fun i hi => ?_⟩
  obtain ⟨u, u1, u2, u3, u4⟩ := a6 i hi
  refine ⟨u, u1, u2, u3.move fun c c1 c2 => h1 c (by omega) (by omega), ?_⟩
  rw [h3]
  exact u4
theorem Imag.move (h : Imag e σ) (h0 : σ2 0 = σ 0) (h1 : ∀ c, 51 ≤ c ∧ c < 72 ∨ 98 ≤ c ∧ c < 111 → σ2 c = σ c) (h2 : σ2 399 3 = σ 399 3) (h3 : σ2 401 = σ 401) : Imag e σ2 := by
  obtain ⟨im, a1, a2, a3, a4⟩ := h
  refine ⟨im, by rw [h0]; exact a1, by rw [h2]; exact a2, fun q => ?_, by rw [h3]; exact a4⟩
  obtain ⟨u, L, u1, u2, u3, u4, u5, u6⟩ := a3 q
  exact ⟨u, L, u1, u2.move fun c c1 c2 => h1 c (by omega), by rw [h3]; exact u3, u4.move fun c c1 c2 => h1 c (by omega), u5, by rw [h1 98 (by omega)]; exact u6⟩
theorem Tape.move (h : Tape σ) (h1 : σ2 1 = σ 1) (h2 : σ2 3 = σ 3) (h3 : σ2 399 8 = σ 399 8) (h4 : σ2 399 12 = σ 399 12) (h5 : σ2 404 = σ 404) : Tape σ2 := by
  unfold Tape at *
  rw [h1, h2, h3, h4, h5]
  exact h
/-- all but the street itself, over a call of each side -/
theorem Rest.next (h : Rest e σ t) (f1 : FrC σ σ1) (f2 : FrM σ1 σ2) : Rest e σ2 t := by
  have b1 : ∀ c, c < 30 ∨ (51 ≤ c ∧ c < 82) ∨ (98 ≤ c ∧ c < 366) ∨ c = 401 ∨ c = 403 ∨ c = 404 → σ2 c = σ c := fun c hc => by rw [f2.1 c (by omega), f1.1 c (by omega)]
  have b2 : ∀ i, i = 3 ∨ i = 6 ∨ i = 8 ∨ i = 12 → σ2 399 i = σ 399 i := fun i hi => by rw [f2.2.1 i hi, f1.1 399 (by omega)]
  obtain ⟨h1, h2, h3, h4, h5⟩ := h
  refine ⟨f2.2.2, h2.move (b1 1 (by omega)) (b1 3 (by omega)) (b2 8 (by omega)) (b2 12 (by omega)) (b1 404 (by omega)), h3.move (fun c c1 c2 => b1 c (by omega)) (b2 6 (by omega)) (b1 403 (by omega)), h4.move (b1 0 (by omega)) (fun c hc => b1 c (by omega)) (b2 3 (by omega)) (b1 401 (by omega)), ?_⟩
  unfold Mis
  rw [f2.1 391 (by omega), f2.1 398 (by omega)]
  exact f1.2
theorem Core.next (h : Core e σ v L) (f1 : FrC σ σ1) (f2 : FrM σ1 σ2) (h400 : σ2 400 = σ1 400) : Core e σ2 v L := by
  have b1 : ∀ c, c < 30 ∨ (51 ≤ c ∧ c < 82) → σ2 c = σ c := fun c hc => by rw [f2.1 c (by omega), f1.1 c (by omega)]
  obtain ⟨h1, h2, h3, h4, h5, h6⟩ := h
  exact ⟨h1, h2.move fun c c1 c2 => b1 c (by omega), by rw [h400, f1.1 400 (by omega)]; exact h3, h4.move fun c c1 c2 => b1 c (by omega), h5, by rw [b1 72 (by omega)]; exact h6⟩
theorem Inv.next (hC : Core (1000 * j) σ v L) (hR : Rest (1000 * j) σ v.txt) (f1 : FrC σ σ1) (f2 : FrM σ1 σ2) (h400 : σ2 400 = σ1 400) : Inv (j + 1) σ2 := by
  have r := hR.next f1 f2
  exact ⟨v, L, (hC.next f1 f2 h400).mono (by omega), r.1, r.2.1, r.2.2.1.mono (by omega), r.2.2.2.1.mono (by omega), r.2.2.2.2⟩
theorem lgc {x : Int64} : lg_cmp x x = 0 := by
  unfold lg_cmp
  rw [if_neg (fun h => Int64.lt_irrefl h), if_pos rfl]
/-! roads put together -/
theorem roadI {A : Option (Int32 × Mem)} {Bf : Mem → Option (Int32 × Mem)} {k b : Int32} {I : Mem → Prop} (hA : A = some (k, σ1)) (hB : Bf σ1 = some (b, σ2)) (hk : σ2 399 0 = k) (ho : k = 0 → σ2 411 0 = b) (hI : I σ2) : ∃ σ3, (bd2 A fun r1 τ1 => bd2 (Bf τ1) fun r2 τ2 => bd (X12_thrown τ2) fun r3 => if r3 = r1 then (if r1 = 0 then (if (lg_cmp ((τ2 411 0).toInt64) r2.toInt64) = 0 then some (true, τ2) else some (false, τ2)) else some (true, τ2)) else some (false, τ2)) = some (true, σ3) ∧ I σ3 := by
  refine ⟨σ2, ?_, hI⟩
  rw [hA, bd2_s, hB, bd2_s]
  unfold X12_thrown
  rw [bd_s, if_pos hk]
  by_cases h0 : k = 0
  · rw [if_pos h0, ho h0, lgc, if_pos rfl]
  · rw [if_neg h0]
theorem roadB {A : Option (Int32 × Mem)} {Bf : Mem → Option (Int32 × Mem)} {k : Int32} {b : Bool} {I : Mem → Prop} (hA : A = some (k, σ1)) (hB : Bf σ1 = some (b2i b, σ2)) (hk : σ2 399 0 = k) (ho : k = 0 → σ2 411 0 = b2i b) (hI : I σ2) : ∃ σ3, (bd2 A fun r1 τ1 => bd2 (Bf τ1) fun r2 τ2 => bd (X12_thrown τ2) fun r3 => if r3 = r1 then (if r1 = 0 then (if r2 = 0 then (if (lg_cmp ((τ2 411 0).toInt64) ((0 : Int64))) = 0 then some (true, τ2) else some (false, τ2)) else (if (lg_cmp ((τ2 411 0).toInt64) ((1 : Int64))) = 0 then some (true, τ2) else some (false, τ2))) else some (true, τ2)) else some (false, τ2)) = some (true, σ3) ∧ I σ3 := by
  refine ⟨σ2, ?_, hI⟩
  rw [hA, bd2_s, hB, bd2_s]
  unfold X12_thrown
  rw [bd_s, if_pos hk]
  by_cases h0 : k = 0
  · rw [if_pos h0, ho h0]
    cases b with
    | true => rw [if_neg (by decide), if_pos (by decide)]
    | false => rw [if_pos (by decide), if_pos (by decide)]
  · rw [if_neg h0]
theorem road1 {A : Option (Int32 × Mem)} {Bf : Mem → Option (Int32 × Mem)} {b : Int32} {I : Mem → Prop} (hA : A = some (b, σ1)) (hB : Bf σ1 = some (b, σ2)) (hI : I σ2) : ∃ σ3, (bd2 A fun r1 τ1 => bd2 (Bf τ1) fun r2 τ2 => if r1 = r2 then some (true, τ2) else some (false, τ2)) = some (true, σ3) ∧ I σ3 := ⟨σ2, by rw [hA, bd2_s, hB, bd2_s, if_pos rfl], hI⟩
theorem road0 {A : Option Int32} {B : Option (Int32 × Mem)} {b : Int32} {I : Mem → Prop} (hA : A = some b) (hB : B = some (b, σ2)) (hI : I σ2) : ∃ σ3, (bd A fun r1 => bd2 B fun r2 τ2 => if r1 = r2 then some (true, τ2) else some (false, τ2)) = some (true, σ3) ∧ I σ3 := ⟨σ2, by rw [hA, bd_s, hB, bd2_s, if_pos rfl], hI⟩
/-! what is told of the numbers of a call -/
def isP (n : Nat) (x : Int32) : Bool := decide (0 ≤ x) && decide (x < nI n)
theorem isP_t {n : Nat} (hn : n < 2 ^ 31) {x : Int32} (h : isP n x = true) : ∃ p, p < n ∧ x = nI p := by
  unfold isP at h
  rw [Bool.and_eq_true, decide_eq_true_eq, decide_eq_true_eq] at h
  obtain ⟨p, p1, rfl⟩ := nI_of (x := x) (Int32.not_lt.mpr h.1)
  exact ⟨p, (nI_ltI p1 hn).mp h.2, rfl⟩
theorem isP_nI {n p : Nat} (hp : p < n) (hn : n < 2 ^ 31) : isP n (nI p) = true := by
  unfold isP
  rw [decide_eq_true (nI_pos' (by omega)), decide_eq_true (nI_lt hp hn)]; rfl
theorem isP_le {n : Nat} (hn : n < 2 ^ 31) {x : Int32} : (decide (0 ≤ x) && decide (x ≤ nI n - nI 1)) = isP n x := by
  unfold isP
  by_cases h0 : 0 ≤ x
  · rw [decide_eq_true h0, Bool.true_and, Bool.true_and]
    obtain ⟨p, p1, rfl⟩ := nI_of (x := x) (Int32.not_lt.mpr h0)
    apply decide_eq_decide.mpr
    cases n with
    | zero =>
      rw [show nI 0 - nI 1 = oI none from rfl, le_on p1, show nI 0 = (0 : Int32) from rfl]
      exact ⟨False.elim, fun h => nI_pos p1 h⟩
    | succ n =>
      rw [show nI (n + 1) - nI 1 = nI n from nI_pred n, nI_leI p1 (by omega), nI_ltI p1 hn]
      omega
  · rw [decide_eq_false h0, Bool.false_and, Bool.false_and]
theorem m_isPane (W : WF v) (M : SM (σ 400) v) {x : Int32} : X12_isPane σ x = some (b2i (isP v.n x)) := by
  have h9 := W.n9
  unfold X12_isPane
  rw [show (3 : Int32) = nI 3 from rfl, a_n M, bd_s, m_isIn, show (1 : Int32) = nI 1 from rfl, isP_le (by omega), bd_s, gb_b, bd_s]
theorem m_isWalker (W : WF v) (M : SM (σ 400) v) {x : Int32} : X12_isWalker σ x = some (b2i (isP v.k x)) := by
  have h9 := W.k6
  unfold X12_isWalker
  rw [show (4 : Int32) = nI 4 from rfl, a_k M, bd_s, m_isIn, show (1 : Int32) = nI 1 from rfl, isP_le (by omega), bd_s, gb_b, bd_s]
theorem e_needPane (R : SC σ 9 v e) {x : Int32} : X11_needPane σ x = some (if isP v.n x = true then .inl 0 else .inr 1) := by
  unfold X11_needPane X11_needPane_15 isP
  rw [R.n]
  by_cases h0 : x < 0
  · rw [if_pos h0, decide_eq_false (Int32.not_le.mpr h0)]; rfl
  · rw [if_neg h0, decide_eq_true (Int32.not_lt.mp h0), Bool.true_and]
    by_cases h1 : x < nI v.n
    · rw [if_pos h1, decide_eq_true h1]; rfl
    · rw [if_neg h1, decide_eq_false h1]; rfl
theorem e_needWalker (R : SC σ 9 v e) {x : Int32} : X11_needWalker σ x = some (if isP v.k x = true then .inl 0 else .inr 1) := by
  unfold X11_needWalker X11_needWalker_15 isP
  rw [R.k]
  by_cases h0 : x < 0
  · rw [if_pos h0, decide_eq_false (Int32.not_le.mpr h0)]; rfl
  · rw [if_neg h0, decide_eq_true (Int32.not_lt.mp h0), Bool.true_and]
    by_cases h1 : x < nI v.k
    · rw [if_pos h1, decide_eq_true h1]; rfl
    · rw [if_neg h1, decide_eq_false h1]; rfl
def isN (lo hi : Int32) (x : Int32) : Bool := decide (lo ≤ x) && decide (x ≤ hi)
theorem e_needNumber {x lo hi : Int32} : X11_needNumber σ x lo hi = some (if isN lo hi x = true then .inl 0 else .inr 2) := by
  unfold X11_needNumber X11_needNumber_10 isN
  by_cases h0 : x < lo
  · rw [if_pos h0, decide_eq_false (Int32.not_le.mpr h0)]; rfl
  · rw [if_neg h0, decide_eq_true (Int32.not_lt.mp h0), Bool.true_and]
    by_cases h1 : x ≤ hi
    · rw [if_pos h1, decide_eq_true h1]; rfl
    · rw [if_neg h1, decide_eq_false h1]; rfl
theorem m_isN {x lo hi : Int32} : X12_isIn σ x lo hi = some (b2i (isN lo hi x)) := m_isIn
theorem isN_t {lo hi : Nat} (hl : lo < 2 ^ 31) (hh : hi < 2 ^ 31) {x : Int32} (h : isN (nI lo) (nI hi) x = true) : ∃ n, lo ≤ n ∧ n ≤ hi ∧ x = nI n := by
  unfold isN at h
  rw [Bool.and_eq_true, decide_eq_true_eq, decide_eq_true_eq] at h
  have h0 : ¬ x < 0 := by
    intro z
    have a := Int32.lt_iff_toInt_lt.mp z
    have b := Int32.le_iff_toInt_le.mp h.1
    rw [nI_toInt hl] at b
    have : (0 : Int32).toInt = 0 := by decide
    omega
  obtain ⟨n, n1, rfl⟩ := nI_of h0
  exact ⟨n, (nI_leI hl n1).mp h.1, (nI_leI n1 hh).mp h.2, rfl⟩
end INV

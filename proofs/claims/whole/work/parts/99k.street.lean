/-! a street is told: a spec of its lines, and the component -/
noncomputable def View.addP (v : View) (o : Nat) (lit : Bool) : View := ((((((v.w_n (v.n + 1)).w_oil (fun q => if q = v.n then o else v.oil q)).w_dark (fun q => if q = v.n then 0 else v.dark q)).w_own (fun q => if q = v.n then none else v.own q)).w_burn (fun q => if q = v.n then lit else v.burn q)).w_way (fun a b => if a = v.n ∨ b = v.n then false else v.way a b))
noncomputable def View.addW (v : View) (a t : Nat) (ow hd : Option Nat) : View := (((((((v.w_k (v.k + 1)).w_own (fun q => if ow = some q then some v.k else v.own q)).w_pl (fun w => if w = v.k then a else v.pl w)).w_tp (fun w => if w = v.k then t else v.tp w)).w_lt (fun w => if w = v.k then 0 else v.lt w)).w_hd (fun w => if w = v.k then hd else v.hd w)).w_like (fun x y => if x = v.k ∨ y = v.k then 5 else v.like x y))
noncomputable def spPane (b : Nat → Int32) (T : Nat) (v : View) (p : Nat) : PR View :=
  prB (if term b T p = 12 then lpFig b T 99 (nx b T p) else (p, some 20)) (fun o q => if 0 < o ∧ term b T q = 19 then (nx b T q, some (v.addP o true)) else (q, some (v.addP o false)))
noncomputable def spOwn (b : Nat → Int32) (T : Nat) (v : View) (r : Nat) : PR (Option Nat) :=
  if term b T r = 21 then prB (lpFig b T (nI v.n - 1) (nx b T r)) (fun o s => if v.own o = none then (s, some (some o)) else (nx b T r, none)) else (r, some none)
noncomputable def spHead (b : Nat → Int32) (T : Nat) (v : View) (s : Nat) : PR (Option Nat) :=
  if term b T s = 22 then prB (lpFig b T (nI v.n - 1) (nx b T s)) (fun h u => (u, some (some h))) else (s, some none)
noncomputable def spWalk (b : Nat → Int32) (T : Nat) (v : View) (p : Nat) : PR View :=
  if term b T p = 20 then prB (lpFig b T (nI v.n - 1) (nx b T p)) (fun a q => if term b T q = 14 then prB (lpFig b T 99 (nx b T q)) (fun t r => prB (spOwn b T v r) (fun ow s => prB (spHead b T v s) (fun hd u => (u, some (v.addW a t ow hd))))) else (q, none)) else (p, none)
noncomputable def spWay (b : Nat → Int32) (T : Nat) (v : View) (p : Nat) : PR View :=
  prB (lpFig b T (nI v.n - 1) p) (fun a q => prB (lpFig b T (nI v.n - 1) q) (fun c r => if c = a then (q, none) else (r, some (v.w_way (wayS v.way a c true)))))
noncomputable def spLike (b : Nat → Int32) (T : Nat) (v : View) (p : Nat) : PR View :=
  prB (lpFig b T (nI v.k - 1) p) (fun a q => prB (lpFig b T (nI v.k - 1) q) (fun c r => if c = a then (q, none) else prB (lpFig b T 9 r) (fun z s => (s, some (v.w_like (fun x y => if x = a ∧ y = c then z else v.like x y))))))
noncomputable def spTime (b : Nat → Int32) (T : Nat) (v : View) (p : Nat) : PR View :=
  if term b T p = 24 then prB (lpFig b T 100 (nx b T p)) (fun z s => (s, some (v.w_fog z)))
  else if term b T p = 16 then prB (lpFig b T 23 (nx b T p)) (fun z s => (s, some (v.w_hour z)))
  else if term b T p = 25 then prB (lpFig b T 999 (nx b T p)) (fun z s => (s, some (v.w_night z)))
  else (p, none)
noncomputable def spLine (b : Nat → Int32) (T : Nat) (v : View) (p : Nat) : PR View :=
  if term b T p = 10 ∧ v.n < 9 then spPane b T v (nx b T p)
  else if term b T p = 11 ∧ v.k < 6 then spWalk b T v (nx b T p)
  else if term b T p = 23 then spWay b T v (nx b T p)
  else if term b T p = 15 then spLike b T v (nx b T p)
  else spTime b T v p
def FrS (σ0 σ : Mem) : Prop := (∀ c, c ≠ 1 → (c < 30 ∨ 51 ≤ c) → σ c = σ0 c) ∧ ∀ i, i ≠ 5 → i ≠ 6 → σ 1 i = σ0 1 i
def IS (σ0 : Mem) (b : Nat → Int32) (T N e : Nat) (t : (Nat → Int32) × Nat) (v : View) (k j : Nat) (σ : Mem) : Prop := Tok σ b T N ∧ σ 1 5 = nI j ∧ j ≤ N ∧ σ 1 6 = -1 ∧ WF v ∧ SC σ 30 v e ∧ (v.txt, v.texts) = t ∧ FrS σ0 σ
/-- what a piece of a line comes to, in the component -/
def SpR (σ0 : Mem) (b : Nat → Int32) (T N e : Nat) (t : (Nat → Int32) × Nat) (r : Option (Int32 × Mem)) (pr : PR View) : Prop := (∀ v2, pr.2 = some v2 → ∃ σ2 j2, r = some (1, σ2) ∧ ps b T j2 = pr.1 ∧ ∀ k, IS σ0 b T N e t v2 k j2 σ2) ∧ (pr.2 = none → ∃ σ2, r = some (0, σ2) ∧ σ2 1 6 = nI pr.1 ∧ FrS σ0 σ2)
section STREET
variable {σ σ0 σ1 σ2 : Mem} {v : View} {b : Nat → Int32} {T N j e k : Nat} {t : (Nat → Int32) × Nat} {x1 x2 x3 : Int32}
theorem kd30 : kd 30 = 2 := by decide +kernel
theorem WF.addP (W : WF v) {o : Nat} {lit : Bool} (hn : v.n < 9) (ho : o ≤ 99) (hl : lit = true → 0 < o) : WF (v.addP o lit) := by
  unfold View.addP
  unfold WF
  simp only [VR]
  refine ⟨by omega, W.k6, W.texts, W.hour, W.night, W.fog, fun p hp => ?_, fun p hp => ?_, fun p w hp h => ?_, fun p q w hp hq h1 h2 => ?_, fun p hp h => ?_, fun p q hp hq => ?_, fun p hp => ?_, fun w hw => by have := W.pl w hw; omega, W.tp, W.lt, fun w p hw h => by have := W.hd w p hw h; omega, W.like, W.self, W.log, W.rows⟩
  · by_cases c : p = v.n
    · rw [if_pos c]; exact ho
    · rw [if_neg c]; exact W.oil p (by omega)
  · by_cases c : p = v.n
    · rw [if_pos c]; omega
    · rw [if_neg c]; exact W.dark p (by omega)
  · by_cases c : p = v.n
    · rw [if_pos c] at h; cases h
    · rw [if_neg c] at h; exact W.own p w (by omega) h
  · by_cases c : p = v.n
    · rw [if_pos c] at h1; cases h1
    · rw [if_neg c] at h1
      by_cases c2 : q = v.n
      · rw [if_pos c2] at h2; cases h2
      · rw [if_neg c2] at h2; exact W.one p q w (by omega) (by omega) h1 h2
  · by_cases c : p = v.n
    · rw [if_pos c] at h ⊢; exact hl h
    · rw [if_neg c] at h ⊢; exact W.burn p (by omega) h
  · by_cases c : p = v.n ∨ q = v.n
    · rw [if_pos c, if_pos (Or.comm.mp c)]
    · rw [if_neg c, if_neg (fun z => c (Or.comm.mp z))]; exact W.sym p q (by omega) (by omega)
  · by_cases c : p = v.n
    · rw [if_pos (Or.inl c)]
    · rw [if_neg (by omega)]; exact W.irr p (by omega)
theorem WF.addW (W : WF v) {a tp : Nat} {ow hd : Option Nat} (hk : v.k < 6) (ha : a < v.n) (ht : tp ≤ 99) (how : ∀ p, ow = some p → p < v.n ∧ v.own p = none) (hhd : ∀ p, hd = some p → p < v.n) : WF (v.addW a tp ow hd) := by
  unfold View.addW
  unfold WF
  simp only [VR]
  refine ⟨W.n9, by omega, W.texts, W.hour, W.night, W.fog, W.oil, W.dark, fun p w hp h => ?_, fun p q w hp hq h1 h2 => ?_, W.burn, W.sym, W.irr, fun w hw => ?_, fun w hw => ?_, fun w hw => ?_, fun w p hw h => ?_, fun w o hw ho => ?_, fun w hw => ?_, W.log, W.rows⟩
  · by_cases c : ow = some p
    · rw [if_pos c] at h; cases h; omega
    · rw [if_neg c] at h; have := W.own p w hp h; omega
  · by_cases c : ow = some p
    · rw [if_pos c] at h1
      by_cases c2 : ow = some q
      · rw [c] at c2; cases c2; rfl
      · rw [if_neg c2] at h2; cases h1
        have := W.own q _ hq h2; omega
    · rw [if_neg c] at h1
      by_cases c2 : ow = some q
      · rw [if_pos c2] at h2; cases h2
        have := W.own p _ hp h1; omega
      · rw [if_neg c2] at h2; exact W.one p q w hp hq h1 h2
  · by_cases c : w = v.k
    · rw [if_pos c]; exact ha
    · rw [if_neg c]; exact W.pl w (by omega)
  · by_cases c : w = v.k
    · rw [if_pos c]; exact ht
    · rw [if_neg c]; exact W.tp w (by omega)
  · by_cases c : w = v.k
    · rw [if_pos c]; omega
    · rw [if_neg c]; exact W.lt w (by omega)
  · by_cases c : w = v.k
    · rw [if_pos c] at h; exact hhd p h
    · rw [if_neg c] at h; exact W.hd w p (by omega) h
  · by_cases c : w = v.k ∨ o = v.k
    · rw [if_pos c]; omega
    · rw [if_neg c]; exact W.like w o (by omega) (by omega)
  · by_cases c : w = v.k
    · rw [if_pos (Or.inl c)]
    · rw [if_neg (by omega)]; exact W.self w (by omega)
theorem mk_grow {f : Nat → Bool} {n : Nat} (h : f n = false) : mkB f (n + 1) = mkB f n := by
  show (if f n = true then mkB f n ||| bitv n else mkB f n) = _
  rw [h, if_neg (by decide)]
theorem e_addPane (W : WF v) (R : SC σ 30 v e) (hn : v.n < 9) {o : Nat} {lit : Bool} {y : Int32} (hy : (y = 0 ∧ lit = false) ∨ (y = 1 ∧ lit = true)) : ∃ σ2, X7_addPane 30 (nI o) y σ = some σ2 ∧ SC σ2 30 (v.addP o lit) e ∧ ∀ c, c < 30 ∨ 51 ≤ c → σ2 c = σ c := by
  obtain ⟨l2, l4, l6, l8, l10, l12, l14, l16, l18, l20⟩ := ln_str kd30
  generalize hτ : st (st (st (st (st σ 30 0 (nI (v.n + 1))) 32 v.n (nI o)) 34 v.n (-1)) 36 v.n 0) 38 v.n 0 = τ
  have s30 : ∀ i, i ≠ 0 → τ 30 i = σ 30 i := fun i hi => by rw [← hτ, st_n (by decide), st_n (by decide), st_n (by decide), st_n (by decide), st_at' hi]
  have s0 : τ 30 0 = nI (v.n + 1) := by rw [← hτ, st_n (by decide), st_n (by decide), st_n (by decide), st_n (by decide), st_at]
  have so : ∀ c, c ≠ 30 → c ≠ 32 → c ≠ 34 → c ≠ 36 → c ≠ 38 → τ c = σ c := fun c c1 c2 c3 c4 c5 => by rw [← hτ, st_n c5, st_n c4, st_n c3, st_n c2, st_n c1]
  have s32 : ∀ i, τ 32 i = if i = v.n then nI o else σ 32 i := fun i => by
    rw [← hτ, st_n (by decide), st_n (by decide), st_n (by decide)]
    by_cases c : i = v.n
    · rw [if_pos c, c, st_at]
    · rw [if_neg c, st_at' c, st_n (by decide)]
  have s34 : ∀ i, τ 34 i = if i = v.n then -1 else σ 34 i := fun i => by
    rw [← hτ, st_n (by decide), st_n (by decide)]
    by_cases c : i = v.n
    · rw [if_pos c, c, st_at]
    · rw [if_neg c, st_at' c, st_n (by decide), st_n (by decide)]
  have s36 : ∀ i, τ 36 i = if i = v.n then 0 else σ 36 i := fun i => by
    rw [← hτ, st_n (by decide)]
    by_cases c : i = v.n
    · rw [if_pos c, c, st_at]
    · rw [if_neg c, st_at' c, st_n (by decide), st_n (by decide), st_n (by decide)]
  have s38 : ∀ i, τ 38 i = if i = v.n then 0 else σ 38 i := fun i => by
    rw [← hτ]
    by_cases c : i = v.n
    · rw [if_pos c, c, st_at]
    · rw [if_neg c, st_at' c, st_n (by decide), st_n (by decide), st_n (by decide), st_n (by decide)]
  have eA : X7_addPane 30 (nI o) y σ = if y = 0 then some τ else some (st τ 30 8 (τ 30 8 ||| bitv v.n)) := by
    unfold X7_addPane
    rw [R.n, nI_1, pu_s, bd_s, e_set (B := 30 + 1) (by rw [show 30 + 1 + 1 = 30 + 2 from rfl, l2]; omega) (by rw [show 30 + 1 + 1 = 30 + 2 from rfl, l2]; decide), bd_s, e_set (B := 30 + 3) (by rw [show 30 + 3 + 1 = 30 + 4 from rfl, l4]; omega) (by rw [show 30 + 3 + 1 = 30 + 4 from rfl, l4]; decide), bd_s, e_set (B := 30 + 5) (by rw [show 30 + 5 + 1 = 30 + 6 from rfl, l6]; omega) (by rw [show 30 + 5 + 1 = 30 + 6 from rfl, l6]; decide), bd_s, e_set (B := 30 + 7) (by rw [show 30 + 7 + 1 = 30 + 8 from rfl, l8]; omega) (by rw [show 30 + 7 + 1 = 30 + 8 from rfl, l8]; decide), bd_s]
    show (if y = 0 then some (st (st (st (st (st σ 30 0 (nI (v.n + 1))) 32 v.n (nI o)) 34 v.n (-1)) 36 v.n 0) 38 v.n 0) else _) = _
    rw [hτ]
    by_cases c : y = 0
    · rw [if_pos c, if_pos c]
    · rw [if_neg c, if_neg c, e_bit, bd_s]
      rw [← hτ, pu_s]; rfl
  have fin : ∀ ρ : Mem, (∀ c, c ≠ 30 → ρ c = τ c) → (∀ i, i ≠ 8 → ρ 30 i = τ 30 i) → ρ 30 8 = mkB (fun q => if q = v.n then lit else v.burn q) (v.n + 1) → SC ρ 30 (v.addP o lit) e := by
    intro ρ g1 g2 g3
    have gs : ∀ i, i ≠ 0 → i ≠ 8 → ρ 30 i = σ 30 i := fun i i1 i2 => by rw [g2 i i2, s30 i i1]
    have gc : ∀ c, c ≠ 30 → c ≠ 32 → c ≠ 34 → c ≠ 36 → c ≠ 38 → ρ c = σ c := fun c c1 c2 c3 c4 c5 => by rw [g1 c c1, so c c1 c2 c3 c4 c5]
    unfold View.addP
    unfold SC
    simp only [VR]
    refine ⟨by rw [g2 0 (by decide), s0], by rw [gs 1 (by decide) (by decide)]; exact R.k, by rw [gs 2 (by decide) (by decide)]; exact R.texts, by rw [gs 3 (by decide) (by decide)]; exact R.hour, by rw [gs 4 (by decide) (by decide)]; exact R.night, by rw [gs 5 (by decide) (by decide)]; exact R.fog, by rw [gs 6 (by decide) (by decide)]; exact R.mist, by rw [gs 7 (by decide) (by decide)]; exact R.seed, g3, fun p hp => ?_, fun p hp => ?_, fun p hp => ?_, fun p hp => ?_, fun w hw => by rw [gc (30 + 10) (by decide) (by decide) (by decide) (by decide) (by decide)]; exact R.pl w hw, fun w hw => by rw [gc (30 + 12) (by decide) (by decide) (by decide) (by decide) (by decide)]; exact R.tp w hw, fun w hw => by rw [gc (30 + 14) (by decide) (by decide) (by decide) (by decide) (by decide)]; exact R.hd w hw, fun w hw => by rw [gc (30 + 16) (by decide) (by decide) (by decide) (by decide) (by decide)]; exact R.lt w hw, fun w o hw ho hwo => by rw [gc (30 + 18) (by decide) (by decide) (by decide) (by decide) (by decide)]; exact R.like w o hw ho hwo, ?_⟩
    · rw [g1 (30 + 2) (by decide), s32]
      by_cases c : p = v.n
      · rw [if_pos c, if_pos c]
      · rw [if_neg c, if_neg c]; exact R.oil p (by omega)
    · rw [g1 (30 + 4) (by decide), s34]
      by_cases c : p = v.n
      · rw [if_pos c, if_pos c]; rfl
      · rw [if_neg c, if_neg c]; exact R.own p (by omega)
    · rw [g1 (30 + 6) (by decide), s36]
      by_cases c : p = v.n
      · rw [if_pos c, if_pos c]; rfl
      · rw [if_neg c, if_neg c]; exact R.dark p (by omega)
    · rw [g1 (30 + 8) (by decide), s38]
      by_cases c : p = v.n
      · rw [if_pos c]
        rw [mk_0 (n := v.n + 1) (by omega)]
        exact mk_congr fun q _ => by rw [if_pos (Or.inl c)]
      · rw [if_neg c, mk_grow (by rw [if_pos (Or.inr rfl)])]
        rw [show σ 38 p = _ from R.way p (by omega)]
        exact mk_congr fun q hq => by rw [if_neg (by omega)]
    · rw [gs 19 (by decide) (by decide), gc (30 + 20) (by decide) (by decide) (by decide) (by decide) (by decide)]
      exact R.log
  have b8 : τ 30 8 = mkB v.burn v.n := by rw [s30 8 (by decide)]; exact R.burn
  have bc : mkB (fun q => if q = v.n then lit else v.burn q) v.n = mkB v.burn v.n := mk_congr fun q hq => by rw [if_neg (by omega)]
  have fr : ∀ c, c < 30 ∨ 51 ≤ c → τ c = σ c := fun c hc => so c (by omega) (by omega) (by omega) (by omega) (by omega)
  rw [eA]
  rcases hy with ⟨y0, hl⟩ | ⟨y0, hl⟩
  · rw [if_pos y0]
    refine ⟨τ, rfl, fin τ (fun _ _ => rfl) (fun _ _ => rfl) ?_, fr⟩
    rw [mk_grow (by rw [if_pos rfl, hl]), bc, b8]
  · rw [if_neg (by rw [y0]; decide)]
    refine ⟨_, rfl, fin _ (fun c hc => st_n hc) (fun i hi => st_at' hi) ?_, fun c hc => by rw [st_n (by omega), fr c hc]⟩
    rw [st_at, b8]
    show _ = (if (if v.n = v.n then lit else v.burn v.n) = true then mkB (fun q => if q = v.n then lit else v.burn q) v.n ||| bitv v.n else _)
    rw [if_pos (by rw [if_pos rfl, hl]), bc]
theorem e_setWay30 (W : WF v) (R : SC σ 30 v e) {p q : Nat} (hp : p < v.n) (hq : q < v.n) (hpq : p ≠ q) {x : Bool} : ∃ σ2, X7_setWay 30 (nI p) (nI q) (b2i x) σ = some σ2 ∧ SC σ2 30 (v.w_way (wayS v.way p q x)) e ∧ ∀ c, c ≠ 38 → σ2 c = σ c := by
  have h9 := W.n9
  have l38 : ln (37 + 1) = 9 := by decide +kernel
  have hv : v.w_way (wayS v.way p q x) = (v.w_way (fun a => if a = p then (fun b => if b = q then x else v.way p b) else v.way a)).w_way (fun a => if a = q then (fun b => if b = p then x else v.way q b) else if a = p then (fun b => if b = q then x else v.way p b) else v.way a) := by
    rw [View.ww_way]
    congr 1
    funext a b
    unfold wayS
    by_cases c1 : a = p
    · subst c1
      have c2 : ¬ a = q := hpq
      rw [if_neg c2, if_pos rfl]
      by_cases c3 : b = q
      · rw [if_pos c3, if_pos (Or.inl ⟨rfl, c3⟩)]
      · rw [if_neg c3, if_neg (by rintro (⟨-, z⟩ | ⟨z, -⟩); exact c3 z; exact c2 z)]
    · by_cases c2 : a = q
      · subst c2
        rw [if_pos rfl]
        by_cases c3 : b = p
        · rw [if_pos c3, if_pos (Or.inr ⟨rfl, c3⟩)]
        · rw [if_neg c3, if_neg (by rintro (⟨z, -⟩ | ⟨-, z⟩); exact c1 z; exact c3 z)]
      · rw [if_neg c2, if_neg c1, if_neg (by rintro (⟨z, -⟩ | ⟨z, -⟩); exact c1 z; exact c2 z)]
  have R1 := R.s_way p (fun b => if b = q then x else v.way p b)
  have W0 : v.n = (v.w_way (fun a => if a = p then (fun b => if b = q then x else v.way p b) else v.way a)).n := by simp only [VR]
  have R2 := R1.s_way q (fun b => if b = p then x else v.way q b)
  have g1 : ∀ (τ : Mem) (i : Nat), i < 9 → X6_get τ (30 + 7) (nI i) = some (τ 38 i) := fun τ i hi => e_get (B := 37) (by rw [l38]; omega) (by rw [l38]; decide)
  have s1 : ∀ (τ : Mem) (i : Nat) (y : Int32), i < 9 → X6_set (30 + 7) (nI i) y τ = some (st τ 38 i y) := fun τ i y hi => e_set (B := 37) (by rw [l38]; omega) (by rw [l38]; decide)
  have w1 : σ 38 p = mkB (v.way p) v.n := R.way p hp
  have w2 : ∀ y, st σ 38 p y 38 q = mkB (v.way q) v.n := fun y => by rw [st_at' (fun z => hpq z.symm)]; exact R.way q hq
  have hR2 : SC (st (st σ 38 p (mkB (fun b => if b = q then x else v.way p b) v.n)) 38 q (mkB (fun b => if b = p then x else v.way q b) v.n)) 30 (v.w_way (wayS v.way p q x)) e := by
    rw [hv]
    have e2 : (v.w_way (fun a => if a = p then (fun b => if b = q then x else v.way p b) else v.way a)).n = v.n := by simp only [VR]
    rw [e2] at R2
    have e3 : (fun a => if a = q then (fun b => if b = p then x else v.way q b) else (v.w_way (fun a => if a = p then (fun b => if b = q then x else v.way p b) else v.way a)).way a) = (fun a => if a = q then (fun b => if b = p then x else v.way q b) else if a = p then (fun b => if b = q then x else v.way p b) else v.way a) := by simp only [VR]
    rw [e3] at R2
    exact R2
  refine ⟨_, ?_, hR2, fun c hc => by rw [st_n hc, st_n hc]⟩
  unfold X7_setWay
  cases x with
  | true =>
    rw [if_neg (show ¬ b2i true = 0 by decide), g1 _ p (by omega), bd_s, e_bit, bd_s, s1 _ p _ (by omega), bd_s, g1 _ q (by omega), bd_s, e_bit, bd_s, s1 _ q _ (by omega), bd_s, w1, w2]
    have m1 : mkB (v.way p) v.n ||| bitv q = mkB (fun b => if b = q then true else v.way p b) v.n := by
      rw [mk_bit (n := v.n) (by omega) hq, mk_or (by omega)]
      apply mk_congr
      intro i hi
      by_cases c : i = q <;> simp [c]
    have m2 : mkB (v.way q) v.n ||| bitv p = mkB (fun b => if b = p then true else v.way q b) v.n := by
      rw [mk_bit (n := v.n) (by omega) hp, mk_or (by omega)]
      apply mk_congr
      intro i hi
      by_cases c : i = p <;> simp [c]
    rw [m1, m2]
  | false =>
    rw [if_pos (show b2i false = 0 from rfl), g1 _ p (by omega), bd_s, e_bit, bd_s, s1 _ p _ (by omega), bd_s, g1 _ q (by omega), bd_s, e_bit, bd_s, s1 _ q _ (by omega), bd_s, w1, w2, show (-1 : Int32) = oI none from rfl, xorN, xorN]
    have m1 : mkB (v.way p) v.n &&& ~~~(bitv q) = mkB (fun b => if b = q then false else v.way p b) v.n := by
      rw [mk_and_not (by omega)]
      apply mk_congr
      intro i hi
      rw [hb_bit (by omega) (by omega)]
      by_cases c : i = q <;> simp [c]
    have m2 : mkB (v.way q) v.n &&& ~~~(bitv p) = mkB (fun b => if b = p then false else v.way q b) v.n := by
      rw [mk_and_not (by omega)]
      apply mk_congr
      intro i hi
      rw [hb_bit (by omega) (by omega)]
      by_cases c : i = p <;> simp [c]
    rw [m1, m2]

end STREET

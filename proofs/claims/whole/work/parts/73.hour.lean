/-! an hour, both sides -/
def Kp (v u : View) : Prop := u.n = v.n ∧ u.k = v.k ∧ u.txt = v.txt ∧ u.texts = v.texts
theorem Kp.refl {v : View} : Kp v v := ⟨rfl, rfl, rfl, rfl⟩
theorem Kp.trans {v u w : View} (h : Kp v u) (h2 : Kp u w) : Kp v w := ⟨h2.1.trans h.1, h2.2.1.trans h.2.1, h2.2.2.1.trans h.2.2.1, h2.2.2.2.trans h.2.2.2⟩
noncomputable def View.walk1 (v : View) (w : Nat) : View := match v.hd w with
  | none => v
  | some to => ((v.w_pl (fun x => if x = w then v.stepTo (v.pl w) to else v.pl x)).w_hd (fun x => if x = w then (if v.stepTo (v.pl w) to = to then none else some to) else v.hd x))
noncomputable def View.walk (v : View) : View := iterN View.walk1 v v.k
noncomputable def View.lit1 (L : Lw) (s : View × Nat) (w : Nat) : View × Nat :=
  if s.1.lits L w (s.1.pl w) (s.1.lo w (s.1.pl w)) (s.1.tp w) = true then ((s.1.kindle w (s.1.pl w)).write 0 (s.1.pl w) (some w), s.2 + 1) else s
noncomputable def View.lightAll (v : View) (L : Lw) : View × Nat := iterN (View.lit1 L) (v, 0) v.k
noncomputable def View.burnAll (v : View) : View := iterN View.burns v v.n
noncomputable def View.misty (v : View) : Bool := decide (¬ nI v.fog ≤ rnd (drawn v.seed) - rnd (drawn v.seed) / 100 * 100)
noncomputable def View.begun (v : View) (dr : Bool) : View := if dr = true then ((v.w_seed (drawn v.seed)).w_mist (v.misty)) else (v.w_mist (false))
noncomputable def View.tick (v : View) (L : Lw) (dr : Bool) : View × Nat :=
  let u := v.begun dr
  let s := (if u.mist = true then u else u.walk).lightAll L
  (s.1.burnAll.turn, s.2)
section HOUR
variable {σ : Mem} {B C : Nat} {v : View} {e : Nat} {L : Lw}
theorem stepTo_lt {p to : Nat} (hp : p < v.n) : v.stepTo p to < v.n := by
  unfold View.stepTo
  split
  · rename_i s hs
    cases hl : lowL (fun q => v.way p q && decide (v.far q to = some s)) 0 v.n with
    | none => exact hp
    | some j => have := (lowL_some _ _ _).mp hl; show j < v.n; omega
  · exact hp
theorem kp_walk1 {w : Nat} : Kp v (v.walk1 w) := by
  unfold View.walk1 Kp
  split
  · exact ⟨rfl, rfl, rfl, rfl⟩
  · simp only [VR, and_self]
theorem WF.walk1 (W : WF v) {w : Nat} (hw : w < v.k) : WF (v.walk1 w) := by
  unfold View.walk1
  cases hh : v.hd w with
  | none => exact W
  | some to =>
    have hto := W.hd w to hw hh
    exact (by
    unfold WF
    try simp only [VR, View.write, View.kindle]
    exact ⟨W.n9, W.k6, W.texts, W.hour, W.night, W.fog, W.oil, W.dark, W.own, W.one, W.burn, W.sym, W.irr, 
      fun x hx => by
        split
        · exact stepTo_lt (W.pl w hw)
        · exact W.pl x hx, W.tp, W.lt, 
      fun x p hx h => by
        split at h
        · split at h
          · cases h
          · cases h; exact hto
        · exact W.hd x p hx h, W.like, W.self, W.log, W.rows⟩)
theorem walk_i (W : WF v) : ∀ i, i ≤ v.k → WF (iterN View.walk1 v i) ∧ Kp v (iterN View.walk1 v i) := by
  intro i
  induction i with
  | zero => intro _; exact ⟨W, Kp.refl⟩
  | succ i ih =>
    intro hi
    obtain ⟨h1, h2⟩ := ih (by omega)
    rw [iterN]
    exact ⟨h1.walk1 (by rw [h2.2.1]; omega), h2.trans kp_walk1⟩
theorem WF.walk (W : WF v) : WF v.walk := (walk_i W v.k (Nat.le_refl _)).1
theorem kp_walk (W : WF v) : Kp v v.walk := (walk_i W v.k (Nat.le_refl _)).2
theorem lits_t {w p likes taper : Nat} (h : v.lits L w p likes taper = true) : 0 < taper ∧ v.burn p = false ∧ 0 < v.oil p ∧ v.own p ≠ some w := by
  unfold View.lits at h
  split at h
  · cases h
  · split at h
    · cases h
    · split at h
      · cases h
      · split at h
        · cases h
        · rename_i a b c d
          exact ⟨by omega, by simpa using b, by omega, d⟩
theorem kp_kindle {w p : Nat} : Kp v (v.kindle w p) := by
  unfold View.kindle Kp
  split <;> simp only [VR, and_self]
theorem kp_write {kd pn : Nat} {wk : Option Nat} : Kp v (v.write kd pn wk) := by
  unfold View.write Kp
  simp only [VR, and_self]
theorem WF.lit1 {s : View × Nat} (W : WF s.1) {w : Nat} (hw : w < s.1.k) : WF (View.lit1 L s w).1 ∧ Kp s.1 (View.lit1 L s w).1 := by
  have h9 := W.n9
  have h6 := W.k6
  have hp := W.pl w hw
  unfold View.lit1
  split
  · rename_i h
    obtain ⟨h1, h2, h3, h4⟩ := lits_t h
    exact ⟨(W.kindle hw hp h3 h4).write (by omega) (by omega) (fun x hx => by cases hx; omega), kp_kindle.trans kp_write⟩
  · exact ⟨W, Kp.refl⟩
theorem light_i (W : WF v) : ∀ i, i ≤ v.k → WF (iterN (View.lit1 L) (v, 0) i).1 ∧ Kp v (iterN (View.lit1 L) (v, 0) i).1 ∧ (iterN (View.lit1 L) (v, 0) i).2 ≤ i := by
  intro i
  induction i with
  | zero => intro _; exact ⟨W, Kp.refl, Nat.le_refl _⟩
  | succ i ih =>
    intro hi
    obtain ⟨h1, h2, h3⟩ := ih (by omega)
    rw [iterN]
    have h4 := h1.lit1 (L := L) (w := i) (by rw [h2.2.1]; omega)
    refine ⟨h4.1, h2.trans h4.2, ?_⟩
    have h5 : ∀ s : View × Nat, (View.lit1 L s i).2 ≤ s.2 + 1 := by
      intro s
      unfold View.lit1
      split
      · exact Nat.le_refl _
      · exact Nat.le_succ _
    have := h5 (iterN (View.lit1 L) (v, 0) i)
    omega
theorem kp_burns {p : Nat} : Kp v (v.burns p) := by
  have h1 : ∀ u : View, Kp u (u.darker p) := by
    intro u
    unfold View.darker Kp
    split
    · exact ⟨rfl, rfl, rfl, rfl⟩
    · simp only [VR, and_self]
  have h2 : Kp v (v.burnt p) := by
    unfold View.burnt Kp
    split
    · split
      · unfold View.write; simp only [VR, and_self]
      · simp only [VR, and_self]
    · exact ⟨rfl, rfl, rfl, rfl⟩
  exact h2.trans (h1 _)
theorem burn_i (W : WF v) : ∀ i, i ≤ v.n → WF (iterN View.burns v i) ∧ Kp v (iterN View.burns v i) := by
  intro i
  induction i with
  | zero => intro _; exact ⟨W, Kp.refl⟩
  | succ i ih =>
    intro hi
    obtain ⟨h1, h2⟩ := ih (by omega)
    rw [iterN]
    exact ⟨h1.burns (by rw [h2.1]; omega), h2.trans kp_burns⟩
theorem WF.begun (W : WF v) {dr : Bool} : WF (v.begun dr) ∧ Kp v (v.begun dr) := by
  unfold View.begun Kp
  split
  · exact ⟨(by
    unfold WF
    try simp only [VR, View.write, View.kindle]
    exact ⟨W.n9, W.k6, W.texts, W.hour, W.night, W.fog, W.oil, W.dark, W.own, W.one, W.burn, W.sym, W.irr, W.pl, W.tp, W.lt, W.hd, W.like, W.self, W.log, W.rows⟩), by simp only [VR, and_self]⟩
  · exact ⟨(by
    unfold WF
    try simp only [VR, View.write, View.kindle]
    exact ⟨W.n9, W.k6, W.texts, W.hour, W.night, W.fog, W.oil, W.dark, W.own, W.one, W.burn, W.sym, W.irr, W.pl, W.tp, W.lt, W.hd, W.like, W.self, W.log, W.rows⟩), by simp only [VR, and_self]⟩
theorem kp_turn : Kp v v.turn := by
  unfold View.turn Kp
  split <;> simp only [VR, and_self]
theorem WF.tick (W : WF v) {dr : Bool} : WF (v.tick L dr).1 ∧ Kp v (v.tick L dr).1 ∧ (v.tick L dr).2 ≤ 6 := by
  obtain ⟨w1, k1⟩ := W.begun (dr := dr)
  have h6 := W.k6
  have wu : WF (if (v.begun dr).mist = true then v.begun dr else (v.begun dr).walk) ∧ Kp v (if (v.begun dr).mist = true then v.begun dr else (v.begun dr).walk) := by
    split
    · exact ⟨w1, k1⟩
    · exact ⟨w1.walk, k1.trans (kp_walk w1)⟩
  unfold View.tick
  simp only
  generalize (if (v.begun dr).mist = true then v.begun dr else (v.begun dr).walk) = u at wu ⊢
  obtain ⟨a1, a2, a3⟩ := light_i (L := L) wu.1 u.k (Nat.le_refl _)
  obtain ⟨b1, b2⟩ := burn_i a1 _ (Nat.le_refl _)
  refine ⟨b1.turn, ((wu.2.trans a2).trans b2).trans kp_turn, ?_⟩
  have := wu.2.2.1
  exact Nat.le_trans a3 (by omega)
/-! the component -/
theorem SC.frame {σ2 : Mem} (R : SC σ B v e) (h : ∀ c, B ≤ c → c < B + 21 → σ2 c = σ c) : SC σ2 B v e := R.move h
theorem e_walkOn (hB : kd B = 2) (W : WF v) (R : SC σ B v e) : ∃ σ2, X0_walkOn B σ = some σ2 ∧ SC σ2 B v.walk e ∧ ∀ c, c < B ∨ B + 21 ≤ c → σ2 c = σ c := by
  have h6 := W.k6
  obtain ⟨l2, l4, l6, l8, l10, l12, l14, l16, l18, l20⟩ := ln_str hB
  unfold X0_walkOn View.walk
  simp only [li0]
  refine loop_P (L := fun f τ i => X0_walkOn_2 f B i τ) (P := fun i τ => SC τ B (iterN View.walk1 v i) e ∧ ∀ c, c < B ∨ B + 21 ≤ c → τ c = σ c) (Q := fun r => ∃ σ2, r = some σ2 ∧ SC σ2 B (iterN View.walk1 v v.k) e ∧ ∀ c, c < B ∨ B + 21 ≤ c → σ2 c = σ c) (n := v.k) (fun f τ hP => ?_) (fun f τ i hi hP => Or.inr ?_) (Nat.zero_le _) (FUb (by omega)) ⟨R, fun _ _ => rfl⟩
  · obtain ⟨R1, f1⟩ := hP
    obtain ⟨W1, K1⟩ := walk_i W v.k (Nat.le_refl _)
    refine ⟨τ, ?_, R1, f1⟩
    rw [X0_walkOn_2, R1.k, K1.2.1, if_pos (nI_le (Nat.le_refl _) (by omega))]
  · obtain ⟨R1, f1⟩ := hP
    obtain ⟨W1, K1⟩ := walk_i W i (by omega)
    rw [iterN]
    generalize iterN View.walk1 v i = u at R1 W1 K1 ⊢
    have hiu : i < u.k := by rw [K1.2.1]; exact hi
    have hpl := W1.pl i hiu
    have h9 := W1.n9
    rw [X0_walkOn_2, R1.k, if_neg (nI_ge hiu (by rw [K1.2.1]; omega)), g_hd hB W1 R1 hiu, bd_s]
    unfold View.walk1
    cases hh : u.hd i with
    | none =>
      rw [if_pos (show oI none = -1 from rfl), nI_1]
      exact ⟨τ, rfl, R1, f1⟩
    | some to =>
      have hto := W1.hd i to hiu hh
      rw [if_neg (show ¬ oI (some to) = -1 from nI_m1 (by omega)), oI_s, g_pl hB W1 R1 hiu, bd_s, e_stepTo hB W1 R1 hpl hto, bd_s, e_set (by rw [l10]; omega) (by rw [l10]; decide), bd_s]
      have hst := stepTo_lt (v := u) (to := to) hpl
      have R2 := R1.s_pl i (u.stepTo (u.pl i) to)
      have es : ∀ (ρ : Mem) (x : Int32), X6_set (B + 13) (nI i) x ρ = some (st ρ (B + 14) i x) := fun ρ x => e_set (by rw [l14]; omega) (by rw [l14]; decide)
      by_cases c : u.stepTo (u.pl i) to = to
      · rw [if_pos (by rw [c])]
        unfold X0_walkOn_65
        rw [es, bd_s, nI_1]
        have R3 := R2.s_hd i none
        simp only [VR] at R3
        refine ⟨_, rfl, ?_, fun b hb => by rw [st_n (by omega), st_n (by omega)]; exact f1 b hb⟩
        show SC _ B ((u.w_pl (fun x => if x = i then u.stepTo (u.pl i) to else u.pl x)).w_hd (fun x => if x = i then (if u.stepTo (u.pl i) to = to then none else some to) else u.hd x)) e
        rw [if_pos c]
        exact R3
      · rw [if_neg (fun z => c (nI_inj (by omega) (by omega) z))]
        unfold X0_walkOn_65
        rw [es, bd_s, nI_1]
        have R3 := R2.s_hd i (some to)
        simp only [VR] at R3
        refine ⟨_, rfl, ?_, fun b hb => by rw [st_n (by omega), st_n (by omega)]; exact f1 b hb⟩
        show SC _ B ((u.w_pl (fun x => if x = i then u.stepTo (u.pl i) to else u.pl x)).w_hd (fun x => if x = i then (if u.stepTo (u.pl i) to = to then none else some to) else u.hd x)) e
        rw [if_neg c]
        exact R3
theorem e_lightLamps (hB : kd B = 2) (hC : kd C = kd 72) (hs : B + 21 ≤ C ∨ C + 13 ≤ B) (W : WF v) (R : SC σ B v e) (K : LC σ C L) (he : e + 6 < 2 ^ 30) : ∃ σ2, X0_lightLamps B C σ = some (nI (v.lightAll L).2, σ2) ∧ SC σ2 B (v.lightAll L).1 (e + 6) ∧ LC σ2 C L ∧ ∀ c, c < B ∨ B + 21 ≤ c → c ≠ C + 10 → c ≠ C + 12 → σ2 c = σ c := by
  have h6 := W.k6
  unfold X0_lightLamps View.lightAll
  simp only [li0]
  refine loop_P (L := fun f (a : Int32 × Mem) i => X0_lightLamps_5 f B C a.1 i a.2) (P := fun i a => a.1 = nI (iterN (View.lit1 L) (v, 0) i).2 ∧ SC a.2 B (iterN (View.lit1 L) (v, 0) i).1 (e + i) ∧ LC a.2 C L ∧ ∀ c, c < B ∨ B + 21 ≤ c → c ≠ C + 10 → c ≠ C + 12 → a.2 c = σ c) (Q := fun r => ∃ σ2, r = some (nI (iterN (View.lit1 L) (v, 0) v.k).2, σ2) ∧ SC σ2 B (iterN (View.lit1 L) (v, 0) v.k).1 (e + 6) ∧ LC σ2 C L ∧ ∀ c, c < B ∨ B + 21 ≤ c → c ≠ C + 10 → c ≠ C + 12 → σ2 c = σ c) (n := v.k) (a := (nI 0, σ)) (fun f a hP => ?_) (fun f a i hi hP => Or.inr ?_) (Nat.zero_le _) (FUb (by omega)) ⟨rfl, R, K, fun _ _ _ _ => rfl⟩
  · obtain ⟨p1, R1, p2, p3⟩ := hP
    obtain ⟨W1, K1, -⟩ := light_i (L := L) W v.k (Nat.le_refl _)
    refine ⟨a.2, ?_, R1.mono (by omega), p2, p3⟩
    show X0_lightLamps_5 (f + 1) B C a.1 (nI v.k) a.2 = _
    rw [X0_lightLamps_5, R1.k, K1.2.1, if_pos (nI_le (Nat.le_refl _) (by omega)), p1]
  · obtain ⟨p1, R1, p2, p3⟩ := hP
    obtain ⟨W1, K1, -⟩ := light_i (L := L) W i (by omega)
    rw [iterN]
    generalize iterN (View.lit1 L) (v, 0) i = u at p1 R1 W1 K1 ⊢
    obtain ⟨c, τ⟩ := a
    have hiu : i < u.1.k := by rw [K1.2.1]; exact hi
    have hpl := W1.pl i hiu
    have h9 := W1.n9
    have htp := W1.tp i hiu
    simp only at p1 R1 p2 p3 ⊢
    rw [X0_lightLamps_5, R1.k, if_neg (nI_ge hiu (by rw [K1.2.1]; omega)), g_pl hB W1 R1 hiu, bd_s, e_likesFor hB W1 R1 hiu hpl, bd_s, g_tp hB W1 R1 hiu, bd_s]
    obtain ⟨ρ, r1, r2⟩ := e_letsLight hB hC hs W1 R1 p2 (likes := u.1.lo i (u.1.pl i)) hiu hpl (taper := u.1.tp i) (by omega)
    rw [r1, bd2_s]
    have R2 : SC ρ B u.1 (e + i) := R1.move fun c h1 h2 => r2 c (by omega) (by omega)
    have K2 : LC ρ C L := p2.move fun c h1 h2 => r2 c (by omega) (by omega)
    unfold View.lit1
    cases hl : u.1.lits L i (u.1.pl i) (u.1.lo i (u.1.pl i)) (u.1.tp i) with
    | false =>
      rw [if_pos (show b2i false = 0 from rfl), if_neg (by decide), nI_1]
      exact ⟨(c, ρ), rfl, p1, R2.mono (by omega), K2, fun b h1 h2 h3 => by show ρ b = σ b; rw [r2 b h2 h3]; exact p3 b h1 h2 h3⟩
    | true =>
      obtain ⟨t1, t2, t3, t4⟩ := lits_t hl
      obtain ⟨ρ2, s1, s2, s3⟩ := e_light hB W1 R2 (by omega) (kd := 0) hiu hpl t1 t3 t4 (W1.kindle hiu hpl t3 t4)
      rw [if_neg (show ¬ b2i true = 0 by decide), if_pos rfl, show (0 : Int32) = nI 0 from rfl, s1, bd_s, p1, nI_1, nI_1]
      exact ⟨(nI (u.2 + 1), ρ2), rfl, rfl, s2, K2.move fun c h1 h2 => s3 c (by omega), fun b h1 h2 h3 => by show ρ2 b = σ b; rw [s3 b h1, r2 b h2 h3]; exact p3 b h1 h2 h3⟩
theorem e_tick (hB : kd B = 2) (hC : kd C = kd 72) (hs : B + 21 ≤ C ∨ C + 13 ≤ B) (W : WF v) (R : SC σ B v e) (K : LC σ C L) (he : e + 15 < 2 ^ 30) {dr : Bool} : ∃ σ2, X0_tick B C (b2i dr) σ = some (nI (v.tick L dr).2, σ2) ∧ SC σ2 B (v.tick L dr).1 (e + 15) ∧ LC σ2 C L ∧ ∀ c, c < B ∨ B + 21 ≤ c → c ≠ C + 10 → c ≠ C + 12 → σ2 c = σ c := by
  have tail : ∀ (u : View) (τ : Mem), WF u → SC τ B u e → LC τ C L → (∀ c, c < B ∨ B + 21 ≤ c → c ≠ C + 10 → c ≠ C + 12 → τ c = σ c) → ∃ σ2, X0_tick_39 B C τ = some (nI (u.lightAll L).2, σ2) ∧ SC σ2 B (u.lightAll L).1.burnAll.turn (e + 15) ∧ LC σ2 C L ∧ ∀ c, c < B ∨ B + 21 ≤ c → c ≠ C + 10 → c ≠ C + 12 → σ2 c = σ c := by
    intro u τ W1 R1 K1 f1
    obtain ⟨ρ, r1, r2, r3, r4⟩ := e_lightLamps hB hC hs W1 R1 K1 (by omega)
    obtain ⟨W2, -, -⟩ := light_i (L := L) W1 u.k (Nat.le_refl _)
    have W2 : WF (u.lightAll L).1 := W2
    have h9 := W2.n9
    unfold X0_tick_39
    rw [r1, bd2_s]
    simp only [li0]
    generalize (u.lightAll L).1 = u2 at r2 W2 h9 ⊢
    unfold View.burnAll
    refine loop_P (L := fun f τ2 i => X0_tick_50 f B (nI (u.lightAll L).2) i τ2) (P := fun i τ2 => SC τ2 B (iterN View.burns u2 i) (e + 6 + i) ∧ ∀ c, c < B ∨ B + 21 ≤ c → τ2 c = ρ c) (Q := fun r => ∃ σ2, r = some (nI (u.lightAll L).2, σ2) ∧ SC σ2 B (iterN View.burns u2 u2.n).turn (e + 15) ∧ LC σ2 C L ∧ ∀ c, c < B ∨ B + 21 ≤ c → c ≠ C + 10 → c ≠ C + 12 → σ2 c = σ c) (n := u2.n) (fun f τ2 hP => ?_) (fun f τ2 i hi hP => Or.inr ?_) (Nat.zero_le _) (FUb (by omega)) ⟨r2, fun _ _ => rfl⟩
    · obtain ⟨R3, f3⟩ := hP
      obtain ⟨W3, K3⟩ := burn_i W2 u2.n (Nat.le_refl _)
      rw [X0_tick_50, R3.n, K3.1, if_pos (nI_le (Nat.le_refl _) (by omega))]
      obtain ⟨σ2, q1, q2, q3⟩ := e_turnHour W3 R3
      rw [q1, bd_s]
      exact ⟨σ2, rfl, q2.mono (by omega), (r3.move fun c h1 h2 => by rw [q3 c (by omega), f3 c (by omega)]), fun c h1 h2 h3 => by rw [q3 c h1, f3 c h1, r4 c h1 h2 h3]; exact f1 c h1 h2 h3⟩
    · obtain ⟨R3, f3⟩ := hP
      obtain ⟨W3, K3⟩ := burn_i W2 i (by omega)
      rw [iterN]
      generalize iterN View.burns u2 i = u3 at R3 W3 K3 ⊢
      have hiu : i < u3.n := by rw [K3.1]; exact hi
      rw [X0_tick_50, R3.n, if_neg (nI_ge hiu (by rw [K3.1]; omega))]
      obtain ⟨σ2, q1, q2, q3⟩ := e_burnDown hB W3 R3 (by omega) hiu
      rw [q1, bd_s, nI_1]
      exact ⟨σ2, rfl, q2, fun c h1 => by rw [q3 c h1, f3 c h1]⟩
  have mid : ∀ (u : View) (τ : Mem) (m : Bool), WF u → SC τ B u e → LC τ C L → (∀ c, c < B ∨ B + 21 ≤ c → c ≠ C + 10 → c ≠ C + 12 → τ c = σ c) → ∃ σ2, X0_tick_24 B C B (b2i m) τ = some (nI ((if m = true then (u.w_mist (m)) else ((u.w_mist (m)) : View).walk).lightAll L).2, σ2) ∧ SC σ2 B ((if m = true then (u.w_mist (m)) else ((u.w_mist (m)) : View).walk).lightAll L).1.burnAll.turn (e + 15) ∧ LC σ2 C L ∧ ∀ c, c < B ∨ B + 21 ≤ c → c ≠ C + 10 → c ≠ C + 12 → σ2 c = σ c := by
    intro u τ m W1 R1 K1 f1
    have W2 : WF ((u.w_mist (m)) : View) := (by
    unfold WF
    try simp only [VR, View.write, View.kindle]
    exact ⟨W1.n9, W1.k6, W1.texts, W1.hour, W1.night, W1.fog, W1.oil, W1.dark, W1.own, W1.one, W1.burn, W1.sym, W1.irr, W1.pl, W1.tp, W1.lt, W1.hd, W1.like, W1.self, W1.log, W1.rows⟩)
    have R2 := R1.s_mist m
    have K2 : LC (st τ B 6 (b2i m)) C L := K1.move fun c h1 h2 => by rw [st_n (by omega)]
    unfold X0_tick_24
    rw [gb_b, bd_s, pu_s, bd_s, st_at]
    cases m with
    | true =>
      rw [if_neg (show ¬ b2i true = 0 by decide), if_pos rfl]
      exact tail _ _ W2 R2 K2 (fun c h1 h2 h3 => by rw [st_n (by omega)]; exact f1 c h1 h2 h3)
    | false =>
      rw [if_pos (show b2i false = 0 from rfl), if_neg (by decide)]
      obtain ⟨ρ, r1, r2, r3⟩ := e_walkOn hB W2 R2
      rw [r1, bd_s]
      exact tail _ _ W2.walk r2 (K2.move fun c h1 h2 => r3 c (by omega)) (fun c h1 h2 h3 => by rw [r3 c h1, st_n (by omega)]; exact f1 c h1 h2 h3)
  unfold X0_tick X0_tick_23 View.tick View.begun
  cases dr with
  | false =>
    rw [if_pos (show b2i false = 0 from rfl)]
    have := mid v σ false W R K (fun _ _ _ _ => rfl)
    simp only [VR, Bool.false_eq_true, if_false] at this ⊢
    exact this
  | true =>
    rw [if_neg (show ¬ b2i true = 0 by decide)]
    obtain ⟨τ, t1, t2, t3⟩ := e_draw R
    rw [t1, bd2_s, t2.fog]
    have W1 : WF ((v.w_seed (drawn v.seed)) : View) := (by
    unfold WF
    try simp only [VR, View.write, View.kindle]
    exact ⟨W.n9, W.k6, W.texts, W.hour, W.night, W.fog, W.oil, W.dark, W.own, W.one, W.burn, W.sym, W.irr, W.pl, W.tp, W.lt, W.hd, W.like, W.self, W.log, W.rows⟩)
    have hm : v.misty = decide (¬ nI v.fog ≤ rnd (drawn v.seed) - rnd (drawn v.seed) / 100 * 100) := rfl
    have main := fun m => mid _ τ m W1 t2 (K.move fun c h1 h2 => t3 c (by omega)) (fun c h1 h2 h3 => t3 c h1)
    simp only [VR, if_true]
    by_cases c : nI v.fog ≤ rnd (drawn v.seed) - rnd (drawn v.seed) / 100 * 100
    · rw [if_pos c, hm, decide_eq_false (fun z => z c)]
      exact main false
    · rw [if_neg c, hm, decide_eq_true c]
      exact main true
end HOUR

/-! an hour of the reference -/
noncomputable def View.stepC (v : View) (p to : Nat) : Nat → Bool := fun q => match v.far p to with
  | some (s + 1) => v.way p q && decide (v.far q to = some s)
  | _ => false
section MHOUR
variable {σ : Mem} {v : View} {e : Nat} {L : Lw}
theorem MF.refl (h : BO σ) : MF σ σ := ⟨fun _ _ _ _ => rfl, fun _ _ => rfl, h⟩
theorem MF.trans {σ1 σ2 : Mem} (h : MF σ σ1) (h2 : MF σ1 σ2) : MF σ σ2 := ⟨fun c a b d => by rw [h2.1 c a b d, h.1 c a b d], fun i hi => by rw [h2.2.1 i hi, h.2.1 i hi], h2.2.2⟩
theorem MF.of {σ1 : Mem} (hb : BO σ) (h : ∀ c, c ≠ 400 → σ1 c = σ c) : MF σ σ1 := by
  refine ⟨fun c _ b _ => h c b, fun i _ => by rw [h 399 (by decide)], ?_⟩
  unfold BO
  rw [h 399 (by decide)]
  exact hb
theorem low_down {c : Nat → Bool} {a : Int32} {n : Nat} : ∀ i, i ≤ n → iterN (fun x j => if c (n - 1 - j) = true then nI (n - 1 - j) else x) a i = (lowL c (n - i) i).elim a nI := by
  intro i
  induction i with
  | zero => intro _; rfl
  | succ i ih =>
    intro hi
    rw [iterN, ih (by omega), lowL, show n - (i + 1) = n - 1 - i by omega, show n - 1 - i + 1 = n - i by omega]
    split
    · rfl
    · rfl
theorem m_stepsL (W : WF v) (M : SM (σ 400) v) {w p to : Nat} (hp : p < v.n) (hto : to < v.n) : ∀ (m fuel : Nat) (a : Int32), m ≤ v.n → m < fuel → X12_steps_41 fuel (nI w) (nI to) (nI p) (oI (v.far p to)) a (nI m - nI 1) σ = X12_steps_41 1 (nI w) (nI to) (nI p) (oI (v.far p to)) (iterN (fun x j => if v.stepC p to (m - 1 - j) = true then nI (m - 1 - j) else x) a m) (oI none) σ := by
  have h9 := W.n9
  intro m
  induction m with
  | zero =>
    intro fuel a hm hf
    obtain ⟨fuel, rfl⟩ : ∃ z, fuel = z + 1 := ⟨fuel - 1, by omega⟩
    rw [show nI 0 - nI 1 = oI none from rfl]
    show X12_steps_41 (fuel + 1) _ _ _ _ a (oI none) σ = X12_steps_41 (0 + 1) _ _ _ _ a (oI none) σ
    rw [X12_steps_41, X12_steps_41, if_pos (show oI none < 0 by decide), if_pos (show oI none < 0 by decide)]
  | succ m ih =>
    intro fuel a hm hf
    obtain ⟨fuel, rfl⟩ : ∃ z, fuel = z + 1 := ⟨fuel - 1, by omega⟩
    have hm1 : nI (m + 1) - nI 1 = nI m := nI_pred m
    have hnx : nI m + -1 = nI m - nI 1 := by rw [Int32.sub_eq_add_neg]; rfl
    have shift : ∀ (q : Nat) (a : Int32) (g : Int32 → Nat → Int32), iterN (fun x j => g x (m - 1 - j)) (g a m) q = iterN (fun x j => g x (m + 1 - 1 - j)) a (q + 1) := by
      intro q a g
      induction q with
      | zero => rfl
      | succ q ih2 =>
        rw [iterN, ih2]
        show _ = g (iterN (fun x j => g x (m + 1 - 1 - j)) a (q + 1)) (m + 1 - 1 - (q + 1))
        rw [show m - 1 - q = m + 1 - 1 - (q + 1) by omega]
    rw [hm1, X12_steps_41, if_neg (nI_pos (by omega)), hnx]
    have e1 := fun a => ih fuel a (by omega) (by omega)
    have key : ∀ b : Bool, b = v.stepC p to m → X12_steps_41 fuel (nI w) (nI to) (nI p) (oI (v.far p to)) (if b = true then nI m else a) (nI m - nI 1) σ = X12_steps_41 1 (nI w) (nI to) (nI p) (oI (v.far p to)) (iterN (fun x j => if v.stepC p to (m + 1 - 1 - j) = true then nI (m + 1 - 1 - j) else x) a (m + 1)) (oI none) σ := by
      intro b hb
      rw [e1, ← shift m a (fun x k => if v.stepC p to k = true then nI k else x), hb]
    cases hf : v.far p to with
    | none =>
      rw [hf] at key
      rw [if_pos (by decide)]
      exact key false (by unfold View.stepC; rw [hf])
    | some t =>
      rw [hf] at key
      have ht := far_lt hf
      cases t with
      | zero => rw [if_pos (by decide)]; exact key false (by unfold View.stepC; rw [hf])
      | succ s =>
        rw [oI_s] at key ⊢
        rw [if_neg (nI_nle (by omega) (by omega)), m_isWay W M hp (by omega), bd_s]
        cases hw : v.way p m with
        | false =>
          rw [if_pos (show b2i false = 0 from rfl)]
          exact key false (by unfold View.stepC; rw [hf]; simp only [hw, Bool.false_and])
        | true =>
          rw [if_neg (show ¬ b2i true = 0 by decide), m_far W M (by omega) hto, bd_s, show nI (s + 1) - 1 = nI s from nI_pred s]
          by_cases c : v.far m to = some s
          · rw [if_pos (show oI (v.far m to) = nI s by rw [c]; rfl)]
            exact key true (by unfold View.stepC; rw [hf]; simp only [hw, c, decide_true, Bool.and_true])
          · rw [if_neg (fun z => c ((oI_nI (fun x hx => by have := far_lt hx; omega) (by omega)).mp z))]
            exact key false (by unfold View.stepC; rw [hf]; simp only [hw, c, decide_false, Bool.and_false])
theorem m_steps (W : WF v) (M : SM (σ 400) v) (hb : BO σ) {w : Nat} (hw : w < v.k) : ∃ σ2, X12_steps (nI w) σ = some σ2 ∧ SM (σ2 400) (v.walk1 w) ∧ MF σ σ2 := by
  have h9 := W.n9
  have h6 := W.k6
  have hpl := W.pl w hw
  unfold X12_steps View.walk1
  rw [show (2 : Int32) = nI 2 from rfl, o_hd W M hw, bd_s, show (0 : Int32) = nI 0 from rfl, o_pl W M hw, bd_s]
  cases hh : v.hd w with
  | none =>
    rw [if_pos (show oI none = -1 from rfl)]
    exact ⟨σ, rfl, M, MF.refl hb⟩
  | some to =>
    have hto := W.hd w to hw hh
    rw [if_neg (show ¬ oI (some to) = -1 from nI_m1 (by omega)), oI_s, m_far W M hpl hto, bd_s, show (3 : Int32) = nI 3 from rfl, a_n M, bd_s]
    have e1 := m_stepsL W M (w := w) hpl hto v.n FU (nI (v.pl w)) (Nat.le_refl _) (FUb (by omega))
    rw [show (1 : Int32) = nI 1 from rfl, e1, low_down (c := v.stepC (v.pl w) to) v.n (Nat.le_refl _), Nat.sub_self]
    have e2 : (lowL (v.stepC (v.pl w) to) 0 v.n).elim (nI (v.pl w)) nI = nI (v.stepTo (v.pl w) to) := by
      have none_low : ∀ (m i : Nat), lowL (fun _ => false) i m = none := by
        intro m
        induction m with
        | zero => intro i; rfl
        | succ m ih => intro i; rw [lowL, if_neg (by decide)]; exact ih (i + 1)
      unfold View.stepTo View.stepC
      cases hf : v.far (v.pl w) to with
      | none => simp only [none_low, Option.elim_none]
      | some t =>
        cases t with
        | zero => simp only [none_low, Option.elim_none]
        | succ s =>
          simp only
          cases lowL (fun q => v.way (v.pl w) q && decide (v.far q to = some s)) 0 v.n <;> rfl
    rw [e2]
    have hst := stepTo_lt (v := v) (to := to) hpl
    have M1 := M.s_pl h9 h6 W.log hw (v.stepTo (v.pl w) to)
    show ∃ σ2, X12_steps_41 (0 + 1) _ _ _ _ _ _ _ = some σ2 ∧ SM (σ2 400) ((v.w_pl (fun x => if x = w then v.stepTo (v.pl w) to else v.pl x)).w_hd (fun x => if x = w then (if v.stepTo (v.pl w) to = to then none else some to) else v.hd x)) ∧ _
    rw [X12_steps_41, if_pos (show oI none < 0 by decide), show (0 : Int32) = nI 0 from rfl, ixU, m_set (by omega), bd_s]
    by_cases c : v.stepTo (v.pl w) to = to
    · rw [if_pos (show nI (v.stepTo (v.pl w) to) = nI to by rw [c]), show (2 : Int32) = nI 2 from rfl, ixU, m_set (by omega), bd_s]
      have M2 := M1.s_hd (by simp only [VR]; exact h9) (by simp only [VR]; exact h6) (by simp only [VR]; exact W.log) (p := w) (by simp only [VR]; exact hw) none
      simp only [VR] at M2
      refine ⟨_, rfl, ?_, MF.of hb fun x hx => by rw [st_n hx, st_n hx]⟩
      rw [st_s, st_s, if_pos c]
      exact M2
    · rw [if_neg (fun z => c (nI_inj (by omega) (by omega) z))]
      refine ⟨_, rfl, ?_, MF.of hb fun x hx => by rw [st_n hx]⟩
      rw [st_s, if_neg c]
      rw [View.id_hd]
      · exact M1
      · simp only [VR]
        funext x
        split
        · rename_i e; rw [e, hh]
        · rfl
theorem m_walk (W : WF v) (M : SM (σ 400) v) (hb : BO σ) {Q : Option (Int32 × Mem) → Prop} (hQ : ∀ τ, SM (τ 400) (if v.mist = true then v else v.walk) → MF σ τ → Q (X12_passes_65 τ)) : Q (X12_passes_34 FU (nI 0) σ) := by
  have h6 := W.k6
  cases hm : v.mist with
  | true =>
    rw [hm] at hQ
    obtain ⟨fu, hfu⟩ : ∃ z, FU = z + 1 := ⟨99999, rfl⟩
    rw [hfu, X12_passes_34, show (4 : Int32) = nI 4 from rfl, a_k M, bd_s]
    have := hQ σ (by rw [if_pos rfl]; exact M) (MF.refl hb)
    by_cases c : v.k ≤ 0
    · rw [if_pos (nI_le c (by omega))]; exact this
    · rw [if_neg (nI_ge (by omega) (by omega)), show (8 : Int32) = nI 8 from rfl, a_mist M, bd_s, hm, if_neg (show ¬ b2i true = 0 by decide)]; exact this
  | false =>
    rw [hm, if_neg (by decide)] at hQ
    refine loop_P (L := fun f τ i => X12_passes_34 f i τ) (P := fun i τ => SM (τ 400) (iterN View.walk1 v i) ∧ MF σ τ) (Q := Q) (n := v.k) (fun f τ hP => ?_) (fun f τ i hi hP => Or.inr ?_) (Nat.zero_le _) (FUb (by omega)) ⟨M, MF.refl hb⟩
    · obtain ⟨M1, f1⟩ := hP
      obtain ⟨W1, K1⟩ := walk_i W v.k (Nat.le_refl _)
      rw [X12_passes_34, show (4 : Int32) = nI 4 from rfl, a_k M1, bd_s, K1.2.1, if_pos (nI_le (Nat.le_refl _) (by omega))]
      exact hQ τ M1 f1
    · obtain ⟨M1, f1⟩ := hP
      obtain ⟨W1, K1⟩ := walk_i W i (by omega)
      have hmi : ∀ j, (iterN View.walk1 v j).mist = false := by
        intro j
        induction j with
        | zero => exact hm
        | succ j ih =>
          rw [iterN]
          generalize iterN View.walk1 v j = u at ih ⊢
          unfold View.walk1
          split
          · exact ih
          · simp only [VR]; exact ih
      rw [iterN]
      have hmi := hmi i
      generalize iterN View.walk1 v i = u at M1 W1 K1 hmi ⊢
      have hiu : i < u.k := by rw [K1.2.1]; exact hi
      rw [X12_passes_34, show (4 : Int32) = nI 4 from rfl, a_k M1, bd_s, if_neg (nI_ge hiu (by rw [K1.2.1]; omega)), show (8 : Int32) = nI 8 from rfl, a_mist M1, bd_s, hmi, if_pos (show b2i false = 0 from rfl)]
      obtain ⟨ρ, r1, r2, r3⟩ := m_steps W1 M1 f1.2.2 hiu
      rw [r1, bd_s, nI_1]
      exact ⟨ρ, rfl, r2, f1.trans r3⟩
theorem m_light (W : WF v) (M : SM (σ 400) v) (K : LT v.txt L) (hb : BO σ) {Q : Option (Int32 × Mem) → Prop} (hQ : ∀ τ, SM (τ 400) (v.lightAll L).1 → MF σ τ → Q (X12_passes_119 FU (nI (v.lightAll L).2) (nI 0) τ)) : Q (X12_passes_69 FU (nI 0) (nI 0) σ) := by
  have h6 := W.k6
  unfold View.lightAll at hQ
  refine loop_P (L := fun f (a : Int32 × Mem) i => X12_passes_69 f a.1 i a.2) (P := fun i a => a.1 = nI (iterN (View.lit1 L) (v, 0) i).2 ∧ SM (a.2 400) (iterN (View.lit1 L) (v, 0) i).1 ∧ MF σ a.2) (Q := Q) (n := v.k) (a := (nI 0, σ)) (fun f a hP => ?_) (fun f a i hi hP => Or.inr ?_) (Nat.zero_le _) (FUb (by omega)) ⟨rfl, M, MF.refl hb⟩
  · obtain ⟨p1, M1, f1⟩ := hP
    obtain ⟨W1, K1, -⟩ := light_i (L := L) W v.k (Nat.le_refl _)
    show Q (X12_passes_69 (f + 1) a.1 (nI v.k) a.2)
    rw [X12_passes_69, show (4 : Int32) = nI 4 from rfl, a_k M1, bd_s, K1.2.1, if_pos (nI_le (Nat.le_refl _) (by omega)), p1]
    exact hQ a.2 M1 f1
  · obtain ⟨p1, M1, f1⟩ := hP
    obtain ⟨W1, K1, -⟩ := light_i (L := L) W i (by omega)
    rw [iterN]
    generalize iterN (View.lit1 L) (v, 0) i = u at p1 M1 W1 K1 ⊢
    obtain ⟨c, τ⟩ := a
    have hiu : i < u.1.k := by rw [K1.2.1]; exact hi
    have hpl := W1.pl i hiu
    have h9 := W1.n9
    simp only at p1 M1 f1 ⊢
    rw [X12_passes_69, show (4 : Int32) = nI 4 from rfl, a_k M1, bd_s, if_neg (nI_ge hiu (by rw [K1.2.1]; omega)), show (0 : Int32) = nI 0 from rfl, o_pl W1 M1 hiu, bd_s]
    obtain ⟨ρ, r1, r2, r3⟩ := m_doesLight W1 M1 (by rw [K1.2.2.1]; exact K) f1.2.2 (w := i) (p := u.1.pl i) hiu hpl
    rw [r1, bd2_s]
    have M2 : SM (ρ 400) u.1 := by rw [r3]; exact M1
    unfold View.lit1
    cases hl : u.1.lits L i (u.1.pl i) (u.1.lo i (u.1.pl i)) (u.1.tp i) with
    | false =>
      rw [if_pos (show b2i false = nI 0 from rfl), if_neg (by decide), nI_1]
      exact ⟨(c, ρ), rfl, p1, M2, f1.trans r2⟩
    | true =>
      obtain ⟨t1, t2, t3, t4⟩ := lits_t hl
      obtain ⟨ρ2, s1, s2, s3⟩ := m_kindles W1 M2 (kd := 0) hiu hpl t1 t3 t4 (W1.kindle hiu hpl t3 t4)
      rw [if_neg (show ¬ b2i true = nI 0 by decide), if_pos rfl, o_pl W1 M2 hiu, bd_s, s1, bd_s, p1, nI_1, nI_1]
      exact ⟨(nI (u.2 + 1), ρ2), rfl, rfl, s2, (f1.trans r2).trans (MF.of r2.2.2 s3)⟩
theorem m_burnTurn (W : WF v) (M : SM (σ 400) v) (hb : BO σ) {x : Int32} : ∃ σ2, X12_passes_119 FU x (nI 0) σ = some (x, σ2) ∧ SM (σ2 400) v.burnAll.turn ∧ MF σ σ2 := by
  have h9 := W.n9
  unfold View.burnAll
  refine loop_P (L := fun f τ i => X12_passes_119 f x i τ) (P := fun i τ => SM (τ 400) (iterN View.burns v i) ∧ MF σ τ) (Q := fun r => ∃ σ2, r = some (x, σ2) ∧ SM (σ2 400) (iterN View.burns v v.n).turn ∧ MF σ σ2) (n := v.n) (fun f τ hP => ?_) (fun f τ i hi hP => Or.inr ?_) (Nat.zero_le _) (FUb (by omega)) ⟨M, MF.refl hb⟩
  · obtain ⟨M1, f1⟩ := hP
    obtain ⟨W1, K1⟩ := burn_i W v.n (Nat.le_refl _)
    generalize iterN View.burns v v.n = u at M1 W1 K1 ⊢
    have hh := W1.hour
    have hn := W1.night
    rw [X12_passes_119, show (3 : Int32) = nI 3 from rfl, a_n M1, bd_s, K1.1, if_pos (nI_le (Nat.le_refl _) (by omega)), show (5 : Int32) = nI 5 from rfl, a_hour M1, bd_s, nI_1, m_set (by omega), bd_s, m_at (by omega), bd_s, st_at]
    have M2 := M1.s_hour W1.n9 W1.k6 W1.log (u.hour + 1)
    unfold View.turn
    by_cases c : u.hour + 1 = 24
    · rw [if_pos (show nI (u.hour + 1) = 24 by rw [c]; rfl), if_pos c, show (0 : Int32) = nI 0 from rfl, m_set (by omega), bd_s, show (6 : Int32) = nI 6 from rfl, m_at (by omega), bd_s]
      have e6 : st (st τ 400 5 (nI (u.hour + 1))) 400 5 (nI 0) 400 6 = nI u.night := by rw [st_at' (by decide), st_at' (by decide)]; exact M1.night
      rw [e6, nI_1, show (9999 : Int32) = nI 9999 from rfl, m_lesser (by omega) (by omega), bd_s, m_set (by omega), bd_s]
      have M3 := M1.s_hour W1.n9 W1.k6 W1.log 0
      have M4 := M3.s_night (by simp only [VR]; exact W1.n9) (by simp only [VR]; exact W1.k6) (by simp only [VR]; exact W1.log) (min 9999 (u.night + 1))
      refine ⟨_, rfl, ?_, f1.trans (MF.of f1.2.2 fun c hc => by rw [st_n hc, st_n hc, st_n hc])⟩
      rw [st_s, st_st, st_s]
      exact M4
    · rw [if_neg (show ¬ nI (u.hour + 1) = 24 from fun z => c (nI_inj (a := u.hour + 1) (b := 24) (by omega) (by omega) z)), if_neg c]
      refine ⟨_, rfl, ?_, f1.trans (MF.of f1.2.2 fun c hc => by rw [st_n hc])⟩
      rw [st_s]
      exact M2
  · obtain ⟨M1, f1⟩ := hP
    obtain ⟨W1, K1⟩ := burn_i W i (by omega)
    rw [iterN]
    generalize iterN View.burns v i = u at M1 W1 K1 ⊢
    have hiu : i < u.n := by rw [K1.1]; exact hi
    rw [X12_passes_119, show (3 : Int32) = nI 3 from rfl, a_n M1, bd_s, if_neg (nI_ge hiu (by rw [K1.1]; omega))]
    obtain ⟨ρ, r1, r2, r3⟩ := m_burns W1 M1 hiu
    rw [r1, bd_s, nI_1]
    exact ⟨ρ, rfl, r2, f1.trans (MF.of f1.2.2 r3)⟩
theorem m_passes (W : WF v) (M : SM (σ 400) v) (K : LT v.txt L) (hb : BO σ) {dr : Bool} : ∃ σ2, X12_passes (b2i dr) σ = some (nI (v.tick L dr).2, σ2) ∧ SM (σ2 400) (v.tick L dr).1 ∧ MF σ σ2 := by
  have mid : ∀ (u : View) (τ : Mem), WF u → SM (τ 400) u → LT u.txt L → BO τ → MF σ τ → ∃ σ2, X12_passes_34 FU (nI 0) τ = some (nI ((if u.mist = true then u else u.walk).lightAll L).2, σ2) ∧ SM (σ2 400) ((if u.mist = true then u else u.walk).lightAll L).1.burnAll.turn ∧ MF σ σ2 := by
    intro u τ W1 M1 K1 hb1 f1
    refine m_walk W1 M1 hb1 (Q := fun r => ∃ σ2, r = some (nI ((if u.mist = true then u else u.walk).lightAll L).2, σ2) ∧ SM (σ2 400) ((if u.mist = true then u else u.walk).lightAll L).1.burnAll.turn ∧ MF σ σ2) (fun ρ M2 f2 => ?_)
    have W2 : WF (if u.mist = true then u else u.walk) := by split; exact W1; exact W1.walk
    have K2 : LT (if u.mist = true then u else u.walk).txt L := by split; exact K1; rw [(kp_walk W1).2.2.1]; exact K1
    generalize (if u.mist = true then u else u.walk) = u2 at M2 W2 K2 ⊢
    unfold X12_passes_65
    rw [show (0 : Int32) = nI 0 from rfl]
    refine m_light W2 M2 K2 f2.2.2 (Q := fun r => ∃ σ2, r = some (nI (u2.lightAll L).2, σ2) ∧ SM (σ2 400) (u2.lightAll L).1.burnAll.turn ∧ MF σ σ2) (fun ρ2 M3 f3 => ?_)
    obtain ⟨W3, -, -⟩ := light_i (L := L) W2 u2.k (Nat.le_refl _)
    obtain ⟨σ2, q1, q2, q3⟩ := m_burnTurn (v := (u2.lightAll L).1) W3 M3 f3.2.2 (x := nI (u2.lightAll L).2)
    exact ⟨σ2, q1, q2, ((f1.trans f2).trans f3).trans q3⟩
  have h31 : ∀ (u : View) (τ : Mem) (m : Bool), WF u → SM (τ 400) u → LT u.txt L → BO τ → MF σ τ → ∃ σ2, X12_passes_31 8 (b2i m) τ = some (nI ((if m = true then ((u.w_mist (m)) : View) else ((u.w_mist (m)) : View).walk).lightAll L).2, σ2) ∧ SM (σ2 400) ((if m = true then ((u.w_mist (m)) : View) else ((u.w_mist (m)) : View).walk).lightAll L).1.burnAll.turn ∧ MF σ σ2 := by
    intro u τ m W1 M1 K1 hb1 f1
    have W2 : WF ((u.w_mist (m)) : View) := (by
    unfold WF
    try simp only [VR, View.write, View.kindle]
    exact ⟨W1.n9, W1.k6, W1.texts, W1.hour, W1.night, W1.fog, W1.oil, W1.dark, W1.own, W1.one, W1.burn, W1.sym, W1.irr, W1.pl, W1.tp, W1.lt, W1.hd, W1.like, W1.self, W1.log, W1.rows⟩)
    have M2 := M1.s_mist W1.n9 W1.k6 W1.log m
    unfold X12_passes_31
    rw [show (8 : Int32) = nI 8 from rfl, m_set (by omega), bd_s, show (0 : Int32) = nI 0 from rfl]
    have := mid _ (st τ 400 8 (b2i m)) W2 (by rw [st_s]; exact M2) (by simp only [VR]; exact K1) (by unfold BO; rw [st_n (by decide)]; exact hb1) (f1.trans (MF.of hb1 fun c hc => by rw [st_n hc]))
    simp only [VR] at this
    exact this
  unfold X12_passes X12_passes_30 View.tick View.begun
  cases dr with
  | false =>
    rw [if_pos (show b2i false = 0 from rfl)]
    have := h31 v σ false W M K hb (MF.refl hb)
    simp only [VR, Bool.false_eq_true, if_false] at this ⊢
    exact this
  | true =>
    rw [if_neg (show ¬ b2i true = 0 by decide)]
    obtain ⟨τ, t1, t2, t3⟩ := m_draw W M
    rw [t1, bd2_s, show (7 : Int32) = nI 7 from rfl, a_fog t2, bd_s]
    have W1 : WF ((v.w_seed (drawn v.seed)) : View) := (by
    unfold WF
    try simp only [VR, View.write, View.kindle]
    exact ⟨W.n9, W.k6, W.texts, W.hour, W.night, W.fog, W.oil, W.dark, W.own, W.one, W.burn, W.sym, W.irr, W.pl, W.tp, W.lt, W.hd, W.like, W.self, W.log, W.rows⟩)
    have hm : v.misty = decide (¬ nI v.fog ≤ rnd (drawn v.seed) - rnd (drawn v.seed) / 100 * 100) := rfl
    have f1 : MF σ τ := MF.of hb t3
    have main := fun m => h31 _ τ m W1 t2 (by simp only [VR]; exact K) f1.2.2 f1
    simp only [VR, if_true]
    by_cases c : nI v.fog ≤ rnd (drawn v.seed) - rnd (drawn v.seed) / 100 * 100
    · rw [if_pos c, hm, decide_eq_false (fun z => z c)]
      exact main false
    · rw [if_neg c, hm, decide_eq_true c]
      exact main true
end MHOUR

/-! what is reached; tapers; turns -/
noncomputable def View.reach (v : View) (g : Nat → Bool) (p : Nat) : Nat → Nat → Bool
  | 0 => fun q => decide (q = p) && g q
  | t + 1 => fun q => v.reach g p t q || (v.ar (v.reach g p t) q && g q)
noncomputable def View.tapers (v : View) (L : Lw) (w : Nat) : Int32 := iterN (fun a p => a + b2i (decide (v.far (v.pl w) p ≠ none) && v.lits L w p (v.lo w p) (max 1 (v.tp w)))) (nI 0) v.n
section TURN
variable {σ : Mem} {B : Nat} {v : View} {e : Nat} {L : Lw}
theorem e_reached (hB : kd B = 2) (W : WF v) (R : SC σ B v e) {p : Nat} (hp : p < v.n) {x : Int32} : X7_reached σ B (nI p) x = some (mkB (v.reach (hb x) p 9) v.n) := by
  have h9 := W.n9
  unfold X7_reached
  rw [e_bit, bd_s, mk_bit (n := v.n) (by omega) hp, mk_and_x (by omega), show (0 : Int32) = nI 0 from rfl]
  refine loop_P (L := fun f a i => X7_reached_10 σ f B x a i) (P := fun i a => a = mkB (v.reach (hb x) p i) v.n) (Q := fun r => r = some (mkB (v.reach (hb x) p 9) v.n)) (n := 9) (fun f a hP => ?_) (fun f a i hi hP => Or.inr ?_) (Nat.zero_le _) (FUb (by omega)) rfl
  · rw [X7_reached_10, if_pos (by decide), hP]
  · refine ⟨_, ?_, rfl⟩
    rw [X7_reached_10, if_neg (show ¬ (9 : Int32) ≤ nI i from nI_ge (b := 9) (by omega) (by omega)), hP, e_around hB W R, bd_s, mk_and_x (by omega), mk_or (by omega), nI_1]
    rfl
theorem reach_all {p : Nat} (hn : v.n ≤ 9) : ∀ t q, q < v.n → v.reach (hb (-1)) p t q = v.ball p t q := by
  intro t
  induction t with
  | zero => intro q hq; unfold View.reach View.ball; rw [hb_m1 (by omega), Bool.and_true]
  | succ t ih =>
    intro q hq
    unfold View.reach View.ball View.sp
    rw [hb_m1 (by omega), Bool.and_true, ih q hq]
    congr 1
    unfold View.ar
    have key : ∀ (P Q : Nat → Bool) (m i : Nat), (∀ r, i ≤ r → r < i + m → P r = Q r) → anyR P i m = anyR Q i m := by
      intro P Q m
      induction m with
      | zero => intro i _; rfl
      | succ m ih2 => intro i h; rw [anyR, anyR, h i (Nat.le_refl _) (by omega), ih2 (i + 1) (fun r h1 h2 => h r (by omega) (by omega))]
    exact key _ _ _ _ fun r _ h2 => by rw [ih r (by omega)]
theorem far_ball (W : WF v) {p q : Nat} (hp : p < v.n) (hq : q < v.n) : decide (v.far p q ≠ none) = v.ball p 9 q := by
  by_cases h : v.far p q = none
  · rw [(far_none W hp hq).mp h 9 (Nat.le_refl _)]
    simp [h]
  · rw [decide_eq_true h]
    cases hb : v.ball p 9 q with
    | true => rfl
    | false =>
      exfalso
      refine h ((far_none W hp hq).mpr fun t ht => ?_)
      cases hb2 : v.ball p t q with
      | false => rfl
      | true => rw [ball_le ht hb2] at hb; cases hb
theorem e_tapers (W : WF v) (R : SC σ 9 v e) (K : LC σ 72 L) {w : Nat} (hw : w < v.k) : ∃ σ2, X1_tapersFor 9 72 (nI w) σ = some (v.tapers L w, σ2) ∧ FL σ σ2 := by
  have h9 := W.n9
  have htp := W.tp w hw
  have hpl := W.pl w hw
  unfold X1_tapersFor View.tapers
  rw [g_pl kd9' W R hw, bd_s, e_reached kd9' W R hpl, bd_s, g_tp kd9' W R hw, bd_s]
  rw [show (if nI (v.tp w) < 1 then (1 : Int32) else nI (v.tp w)) = nI (max 1 (v.tp w)) from by
    by_cases h : v.tp w = 0
    · rw [h, if_pos (by decide)]; rfl
    · rw [if_neg (show ¬ nI (v.tp w) < 1 from nI_nlt (b := 1) (by omega) (by omega)), Nat.max_eq_right (by omega)]]
  rw [show (0 : Int32) = nI 0 from rfl]
  refine loop_P (L := fun f (a : Int32 × Mem) i => X1_tapersFor_35 f 9 72 (nI w) (mkB (v.reach (hb (-1)) (v.pl w) 9) v.n) (nI (max 1 (v.tp w))) a.1 i a.2) (P := fun i a => a.1 = iterN (fun a p => a + b2i (decide (v.far (v.pl w) p ≠ none) && v.lits L w p (v.lo w p) (max 1 (v.tp w)))) (nI 0) i ∧ FL σ a.2) (Q := fun r => ∃ σ2, r = some (iterN (fun a p => a + b2i (decide (v.far (v.pl w) p ≠ none) && v.lits L w p (v.lo w p) (max 1 (v.tp w)))) (nI 0) v.n, σ2) ∧ FL σ σ2) (n := v.n) (a := (nI 0, σ)) (fun f a hP => ?_) (fun f a i hi hP => Or.inr ?_) (Nat.zero_le _) (FUb (by omega)) ⟨rfl, FL.refl⟩
  · obtain ⟨p1, p2⟩ := hP
    refine ⟨a.2, ?_, p2⟩
    show X1_tapersFor_35 (f + 1) 9 72 _ _ _ a.1 (nI v.n) a.2 = _
    rw [X1_tapersFor_35, (p2.sc R).n, if_pos (nI_le (Nat.le_refl _) (by omega)), p1]
  · obtain ⟨p1, p2⟩ := hP
    obtain ⟨c, τ⟩ := a
    simp only at p1 p2 ⊢
    have R1 := p2.sc R
    rw [X1_tapersFor_35, R1.n, if_neg (nI_ge hi (by omega)), e_likesFor kd9' W R1 hw hi, bd_s, e_hasBit, hbE (by omega) hi, reach_all h9 9 i hi, ← far_ball W hpl hi, bd_s, iterN, ← p1, nI_1]
    cases hf : decide (v.far (v.pl w) i ≠ none) with
    | false => rw [if_pos (show b2i false = 0 from rfl), Bool.false_and]; exact ⟨(c, τ), rfl, (addz).symm, p2⟩
    | true =>
      rw [if_neg (show ¬ b2i true = 0 by decide), Bool.true_and]
      obtain ⟨ρ, r1, r2⟩ := e_lets W R1 (p2.lc K) (likes := v.lo w i) hw hi (taper := max 1 (v.tp w)) (by omega)
      rw [r1, bd2_s]
      cases hl : v.lits L w i (v.lo w i) (max 1 (v.tp w)) with
      | false => rw [if_pos (show b2i false = 0 from rfl)]; exact ⟨(c, ρ), rfl, (addz).symm, p2.trans r2⟩
      | true => rw [if_neg (show ¬ b2i true = 0 by decide)]; exact ⟨(c + 1, ρ), rfl, rfl, p2.trans r2⟩
theorem ball_congr {u : View} (hn : u.n = v.n) (hw : u.way = v.way) (p : Nat) : ∀ t, u.ball p t = v.ball p t := by
  intro t
  induction t with
  | zero => rfl
  | succ t ih => unfold View.ball View.sp View.ar; rw [ih, hn, hw]
theorem far_congr {u : View} (hn : u.n = v.n) (hw : u.way = v.way) (p q : Nat) : u.far p q = v.far p q := by
  unfold View.far
  have : ∀ m t, u.farL p q t m = v.farL p q t m := by
    intro m
    induction m with
    | zero => intro t; rfl
    | succ m ih => intro t; unfold View.farL; rw [ball_congr hn hw, ih]
  exact this 9 0
theorem lits_tp {f : Nat → Nat} {w p likes taper : Nat} : (v.w_tp f).lits L w p likes taper = v.lits L w p likes taper := by
  unfold View.lits View.will View.pass
  have : (v.w_tp f).facts w p likes taper = v.facts w p likes taper := by
    funext i
    unfold View.facts
    simp only [VR]
  rw [this]
  simp only [VR]
theorem m_tapers (W : WF v) (M : SM (σ 400) v) (K : LT v.txt L) (hb : BO σ) {w : Nat} (hw : w < v.k) : ∃ σ2, X12_tapersOf (nI w) σ = some (v.tapers L w, σ2) ∧ ML σ σ2 := by
  have h9 := W.n9
  have h6 := W.k6
  have htp := W.tp w hw
  have hpl := W.pl w hw
  unfold X12_tapersOf View.tapers
  rw [show (1 : Int32) = nI 1 from rfl, o_tp W M hw, bd_s, m_greater (by omega) (by omega), bd_s, ixU, m_set (by omega), bd_s, show (0 : Int32) = nI 0 from rfl]
  have M1 := M.s_tp h9 h6 W.log hw (max 1 (v.tp w))
  generalize hu : ((v.w_tp (fun q => if q = w then max 1 (v.tp w) else v.tp q)) : View) = u at M1
  have hun : u.n = v.n := by rw [← hu]; simp only [VR]
  have huk : u.k = v.k := by rw [← hu]; simp only [VR]
  have huw : u.way = v.way := by rw [← hu]; simp only [VR]
  have hup : u.pl = v.pl := by rw [← hu]; simp only [VR]
  have hut : u.txt = v.txt := by rw [← hu]; simp only [VR]
  have hul : ∀ p, u.lo w p = v.lo w p := by intro p; rw [← hu]; unfold View.lo; simp only [VR]
  have hutp : u.tp w = max 1 (v.tp w) := by rw [← hu]; simp only [VR, if_true]
  have W1 : WF u := by
    rw [← hu]
    exact (by
    unfold WF
    try simp only [VR]
    exact ⟨W.n9, W.k6, W.texts, W.hour, W.night, W.fog, W.oil, W.dark, W.own, W.one, W.burn, W.sym, W.irr, W.pl, 
      fun x hx => by
        split
        · omega
        · exact W.tp x hx, W.lt, W.hd, W.like, W.self, W.log, W.rows⟩)
  have hul2 : ∀ p likes taper, u.lits L w p likes taper = v.lits L w p likes taper := by intro p likes taper; rw [← hu]; exact lits_tp
  have hb1 : BO (st σ 400 (128 + 4 * w + 1) (nI (max 1 (v.tp w)))) := by unfold BO; rw [st_n (by decide)]; exact hb
  generalize hσ0 : st σ 400 (128 + 4 * w + 1) (nI (max 1 (v.tp w))) = σ0 at hb1
  have M0 : SM (σ0 400) u := by rw [← hσ0, st_s]; exact M1
  have f0 : MF σ σ0 := by rw [← hσ0]; exact MF.of hb fun c hc => st_n hc
  have back : ∀ τ : Mem, τ 400 = σ0 400 → upd (τ 400) (128 + 4 * w + 1) (nI (v.tp w)) = σ 400 := by
    intro τ hτ
    rw [hτ, ← hσ0, st_s]
    funext i
    unfold upd
    by_cases h : i = 128 + 4 * w + 1
    · rw [if_pos h, h]; exact (M.tp w hw).symm
    · rw [if_neg h, if_neg h]
  refine loop_P (L := fun f (a : Int32 × Mem) i => X12_tapersOf_31 f (nI w) a.1 (nI (v.tp w)) i a.2) (P := fun i a => a.1 = iterN (fun a p => a + b2i (decide (v.far (v.pl w) p ≠ none) && v.lits L w p (v.lo w p) (max 1 (v.tp w)))) (nI 0) i ∧ ML σ0 a.2) (Q := fun r => ∃ σ2, r = some (iterN (fun a p => a + b2i (decide (v.far (v.pl w) p ≠ none) && v.lits L w p (v.lo w p) (max 1 (v.tp w)))) (nI 0) v.n, σ2) ∧ ML σ σ2) (n := v.n) (a := (nI 0, σ0)) (fun f a hP => ?_) (fun f a i hi hP => Or.inr ?_) (Nat.zero_le _) (FUb (by omega)) ⟨rfl, ML.refl hb1⟩
  · obtain ⟨p1, p2⟩ := hP
    show ∃ σ2, X12_tapersOf_31 (f + 1) (nI w) a.1 (nI (v.tp w)) (nI v.n) a.2 = _ ∧ _
    rw [X12_tapersOf_31, show (3 : Int32) = nI 3 from rfl, a_n (p2.sm M0), bd_s, hun, if_pos (nI_le (Nat.le_refl _) (by omega)), show (1 : Int32) = nI 1 from rfl, ixU, m_set (by omega), bd_s, p1]
    refine ⟨_, rfl, (f0.trans p2.1).trans (MF.of p2.1.2.2 fun c hc => st_n hc), ?_⟩
    rw [st_s]
    exact back a.2 p2.2
  · obtain ⟨p1, p2⟩ := hP
    obtain ⟨c, τ⟩ := a
    simp only at p1 p2 ⊢
    have M2 := p2.sm M0
    have hwu : w < u.k := by omega
    have hiu : i < u.n := by omega
    rw [X12_tapersOf_31, show (3 : Int32) = nI 3 from rfl, a_n M2, bd_s, hun, if_neg (nI_ge hi (by omega)), show (0 : Int32) = nI 0 from rfl, o_pl W1 M2 hwu, bd_s, m_far W1 M2 (by rw [hup]; omega) hiu, bd_s, hup, far_congr hun huw, iterN, ← p1]
    have no : ∀ ρ2 : Mem, X12_tapersOf_73 (X12_tapersOf_31 f) (nI w) (nI (v.tp w)) (nI i) c ρ2 = X12_tapersOf_31 f (nI w) c (nI (v.tp w)) (nI (i + 1)) ρ2 := by
      intro ρ2
      unfold X12_tapersOf_73 X12_tapersOf_74
      rw [nI_1, show (0 : Int32) = nI 0 from rfl, addz]
    by_cases hf : v.far (v.pl w) i = none
    · rw [if_pos (show oI (v.far (v.pl w) i) = -1 by rw [hf]; rfl), no, hf]
      refine ⟨(c, τ), rfl, ?_, p2⟩
      simp only [ne_eq, not_true_eq_false, decide_false, Bool.false_and]
      exact (addz).symm
    · rw [if_neg (show ¬ oI (v.far (v.pl w) i) = -1 from fun z => hf (far_on.mp z)), decide_eq_true hf, Bool.true_and]
      obtain ⟨ρ, r1, r2, r3⟩ := m_doesLight W1 M2 (by rw [hut]; exact K) p2.1.2.2 hwu hiu
      rw [r1, bd2_s, hul, hutp, hul2]
      cases hl : v.lits L w i (v.lo w i) (max 1 (v.tp w)) with
      | false => rw [if_pos (show b2i false = nI 0 from rfl), no]; exact ⟨(c, ρ), rfl, (addz).symm, p2.trans ⟨r2, r3⟩⟩
      | true =>
        rw [if_neg (show ¬ b2i true = nI 0 by decide)]
        unfold X12_tapersOf_74
        exact ⟨(c + 1, ρ), by rw [nI_1], rfl, p2.trans ⟨r2, r3⟩⟩
/-! turns -/
theorem paneOf_is (W : WF v) {w q : Nat} : v.paneOf w = some q ↔ q < v.n ∧ v.own q = some w := by
  unfold View.paneOf
  rw [lowL_some]
  constructor
  · rintro ⟨-, h2, h3, -⟩; exact ⟨by omega, by simpa using h3⟩
  · rintro ⟨h1, h2⟩
    refine ⟨Nat.zero_le _, by omega, by simp [h2], fun x _ hx => ?_⟩
    simp only [decide_eq_false_iff_not]
    intro h3
    have := W.one x q w (by omega) h1 h3 h2
    omega
theorem lowL_none {f : Nat → Bool} : ∀ (m i : Nat), lowL f i m = none ↔ ∀ x, i ≤ x → x < i + m → f x = false := by
  intro m
  induction m with
  | zero => intro i; exact ⟨fun _ x h1 h2 => absurd h2 (by omega), fun _ => rfl⟩
  | succ m ih =>
    intro i
    unfold lowL
    by_cases h : f i = true
    · rw [if_pos h]
      exact ⟨fun z => (nomatch z), fun z => by rw [z i (Nat.le_refl _) (by omega)] at h; cases h⟩
    · rw [if_neg h, ih (i + 1)]
      constructor
      · intro z x h1 h2
        by_cases e : x = i
        · rw [e]; simpa using h
        · exact z x (by omega) (by omega)
      · intro z x h1 h2; exact z x (by omega) (by omega)
theorem e_paneOf (W : WF v) (R : SC σ 9 v e) {w : Nat} (hw : w < v.k) : X7_paneOf σ 9 (nI w) = some (oI (v.paneOf w)) := by
  have h9 := W.n9
  have h6 := W.k6
  unfold X7_paneOf View.paneOf
  have key : ∀ (m i fuel : Nat), i + m = v.n → m < fuel → X7_paneOf_2 σ fuel 9 (nI w) (nI i) = some (oI (lowL (fun p => decide (v.own p = some w)) i m)) := by
    intro m
    induction m with
    | zero =>
      intro i fuel hi hf
      obtain ⟨fuel, rfl⟩ : ∃ z, fuel = z + 1 := ⟨fuel - 1, by omega⟩
      rw [X7_paneOf_2, R.n, if_pos (nI_le (by omega) (by omega))]; rfl
    | succ m ih =>
      intro i fuel hi hf
      obtain ⟨fuel, rfl⟩ : ∃ z, fuel = z + 1 := ⟨fuel - 1, by omega⟩
      rw [X7_paneOf_2, R.n, if_neg (nI_ge (by omega) (by omega)), g_own kd9' W R (by omega), bd_s, lowL]
      by_cases c : v.own i = some w
      · rw [if_pos ((own_is W (by omega) (by omega)).mpr c), if_pos (by simp [c])]; rfl
      · rw [if_neg (fun z => c ((own_is W (by omega) (by omega)).mp z)), if_neg (by simp [c]), nI_1]
        exact ih (i + 1) fuel (by omega) (by omega)
  exact key v.n 0 FU (by omega) (FUb (by omega))
theorem e_trade (W : WF v) (R : SC σ 9 v e) (K : LC σ 72 L) {w p : Nat} (hw : w < v.k) (hp : p < v.n) : ∃ σ2, X1_isTrade 9 72 (nI w) (nI p) σ = some (b2i (v.trade L w p), σ2) ∧ FL σ σ2 := by
  have h9 := W.n9
  have h6 := W.k6
  unfold X1_isTrade View.trade
  rw [g_own kd9' W R hp, bd_s, e_paneOf W R hw, bd_s]
  cases ho : v.own p with
  | none => rw [if_pos (show oI none = -1 from rfl)]; exact ⟨σ, rfl, FL.refl⟩
  | some o =>
    have hok := W.own p o hp ho
    rw [if_neg (show ¬ oI (some o) = -1 from nI_m1 (by omega)), oI_s]
    simp only
    by_cases c : o = w
    · rw [if_pos (by rw [c]), if_pos c]; exact ⟨σ, rfl, FL.refl⟩
    · rw [if_neg (fun z => c (nI_inj (by omega) (by omega) z)), if_neg c]
      cases hq : v.paneOf w with
      | none => rw [if_pos (show oI none = -1 from rfl)]; exact ⟨σ, rfl, FL.refl⟩
      | some q =>
        obtain ⟨q1, q2⟩ := (paneOf_is W).mp hq
        have htp := W.tp w hw
        have hto := W.tp o hok
        have hlk := W.like o w hok hw
        rw [if_neg (show ¬ oI (some q) = -1 from nI_m1 (by omega)), oI_s, e_likesOf kd9' W R hok hw c, bd_s, nI_1, show (9 : Int32) = nI 9 from rfl, mn999 (by omega) (by omega), bd_s, e_likesOf kd9' W R hw hok (fun z => c z.symm), bd_s, g_tp kd9' W R hw, bd_s]
        obtain ⟨ρ, r1, r2⟩ := e_lets W R K (likes := v.like w o) hw hp (taper := v.tp w) (by omega)
        rw [r1, bd2_s]
        cases hl : v.lits L w p (v.like w o) (v.tp w) with
        | false => exact ⟨ρ, rfl, r2⟩
        | true =>
          rw [if_neg (show ¬ b2i true = 0 by decide), g_tp kd9' W (r2.sc R) hok, bd_s]
          obtain ⟨ρ2, s1, s2⟩ := e_lets W (r2.sc R) (r2.lc K) (likes := min 9 (v.like o w + 1)) hok q1 (taper := v.tp o) (by omega)
          rw [s1, bd2_s]
          simp only [Bool.true_and]
          generalize v.lits L o q (min 9 (v.like o w + 1)) (v.tp o) = gg
          refine ⟨ρ2, ?_, r2.trans s2⟩
          cases gg with
          | false => rfl
          | true => rfl
theorem nearer_lt {w i x : Nat} : iterN (v.nearer L w) none i = some x → x < i ∧ ∃ d, v.far (v.pl w) x = some d := by
  induction i generalizing x with
  | zero => intro h; cases h
  | succ i ih =>
    intro h
    rw [iterN] at h
    unfold View.nearer at h
    cases hf : v.far (v.pl w) i with
    | none => rw [hf] at h; have := ih h; exact ⟨by omega, this.2⟩
    | some d =>
      rw [hf] at h
      simp only at h
      split at h
      · cases h; exact ⟨by omega, d, hf⟩
      · have := ih h; exact ⟨by omega, this.2⟩
theorem e_turnOf (W : WF v) (R : SC σ 9 v e) (K : LC σ 72 L) {w : Nat} (hw : w < v.k) : ∃ σ2, X1_turnOf 9 72 (nI w) σ = some (oI (v.turnOf L w), σ2) ∧ FL σ σ2 := by
  have h9 := W.n9
  have hpl := W.pl w hw
  unfold X1_turnOf View.turnOf
  rw [show (0 : Int32) = nI 0 from rfl, show (-1 : Int32) = oI none from rfl]
  let en : Option Nat → Int32 := fun a => a.elim 1000 (fun x => nI ((v.far (v.pl w) x).getD 0))
  refine loop_P (L := fun f (a : Option Nat × Mem) i => X1_turnOf_11 f 9 72 (nI w) (oI a.1) (en a.1) i a.2) (P := fun i a => a.1 = iterN (v.nearer L w) none i ∧ FL σ a.2) (Q := fun r => ∃ σ2, r = some (oI (iterN (v.nearer L w) none v.n), σ2) ∧ FL σ σ2) (n := v.n) (a := (none, σ)) (fun f a hP => ?_) (fun f a i hi hP => Or.inr ?_) (Nat.zero_le _) (FUb (by omega)) ⟨rfl, FL.refl⟩
  · obtain ⟨p1, p2⟩ := hP
    refine ⟨a.2, ?_, p2⟩
    show X1_turnOf_11 (f + 1) 9 72 _ _ _ (nI v.n) a.2 = _
    rw [X1_turnOf_11, (p2.sc R).n, if_pos (nI_le (Nat.le_refl _) (by omega)), p1]
  · obtain ⟨p1, p2⟩ := hP
    obtain ⟨a, τ⟩ := a
    simp only at p1 p2 ⊢
    have R1 := p2.sc R
    rw [X1_turnOf_11, R1.n, if_neg (nI_ge hi (by omega)), g_pl kd9' W R1 hw, bd_s, e_far kd9' W R1 hpl hi, bd_s, iterN, ← p1, nI_1]
    unfold View.nearer
    cases hf : v.far (v.pl w) i with
    | none => rw [if_pos (show oI none = -1 from rfl)]; exact ⟨(a, τ), rfl, rfl, p2⟩
    | some d =>
      have hd := far_lt hf
      rw [if_neg (show ¬ oI (some d) = -1 from nI_m1 (by omega)), oI_s]
      simp only
      have hen : (en a ≤ nI d) ↔ ¬ (a.elim true (fun x => decide (d < (v.far (v.pl w) x).getD 0)) = true) := by
        cases ha : a with
        | none =>
          simp only [en, Option.elim_none, not_true_eq_false, iff_false]
          exact nI_ge (b := 1000) (by omega) (by decide)
        | some x =>
          obtain ⟨x1, d2, x2⟩ := nearer_lt (p1.symm.trans ha)
          have := far_lt x2
          simp only [en, Option.elim_some, x2, Option.getD_some, decide_eq_true_eq, Nat.not_lt]
          exact nI_leI (by omega) (by omega)
      by_cases c : en a ≤ nI d
      · rw [if_pos c]
        have := hen.mp c
        rw [Bool.not_eq_true] at this
        rw [this, Bool.false_and, if_neg (by decide)]
        exact ⟨(a, τ), rfl, rfl, p2⟩
      · rw [if_neg c]
        have : a.elim true (fun x => decide (d < (v.far (v.pl w) x).getD 0)) = true := by
          cases hh : a.elim true (fun x => decide (d < (v.far (v.pl w) x).getD 0)) with
          | true => rfl
          | false => exact absurd (hen.mpr (by rw [hh]; decide)) c
        rw [this, Bool.true_and]
        obtain ⟨ρ, r1, r2⟩ := e_trade W R1 (p2.lc K) hw hi
        rw [r1, bd2_s]
        cases ht : v.trade L w i with
        | false => rw [if_pos (show b2i false = 0 from rfl), if_neg (by decide)]; exact ⟨(a, ρ), rfl, rfl, p2.trans r2⟩
        | true =>
          rw [if_neg (show ¬ b2i true = 0 by decide), if_pos rfl]
          refine ⟨(some i, ρ), ?_, rfl, p2.trans r2⟩
          show _ = X1_turnOf_11 f 9 72 (nI w) (nI i) (nI ((v.far (v.pl w) i).getD 0)) (nI (i + 1)) ρ
          rw [hf]; rfl
theorem m_wouldTurn (W : WF v) (M : SM (σ 400) v) (K : LT v.txt L) (hb : BO σ) {w o : Nat} (hw : w < v.k) (ho : o < v.k) : ∃ σ2, X12_wouldTurn (nI o) (nI w) σ = some (b2i (match v.paneOf w with | none => false | some q => v.lits L o q (min 9 (v.like o w + 1)) (v.tp o)), σ2) ∧ ML σ σ2 := by
  have h9 := W.n9
  have h6 := W.k6
  have hlk := W.like o w ho hw
  unfold X12_wouldTurn
  rw [show (0 : Int32) = nI 0 from rfl]
  generalize hg : (match v.paneOf w with | none => false | some q => v.lits L o q (min 9 (v.like o w + 1)) (v.tp o)) = g
  refine loop_P (L := fun f (a : Bool × Mem) i => X12_wouldTurn_5 f (nI o) (nI w) (b2i a.1) i a.2) (P := fun i a => a.1 = (match v.paneOf w with | none => false | some q => decide (q < i) && g) ∧ ML σ a.2) (Q := fun r => ∃ σ2, r = some (b2i g, σ2) ∧ ML σ σ2) (n := v.n) (a := (false, σ)) (fun f a hP => ?_) (fun f a i hi hP => Or.inr ?_) (Nat.zero_le _) (FUb (by omega)) ⟨by cases v.paneOf w <;> rfl, ML.refl hb⟩
  · obtain ⟨p1, p2⟩ := hP
    refine ⟨a.2, ?_, p2⟩
    show X12_wouldTurn_5 (f + 1) (nI o) (nI w) (b2i a.1) (nI v.n) a.2 = _
    rw [X12_wouldTurn_5, show (3 : Int32) = nI 3 from rfl, a_n (p2.sm M), bd_s, if_pos (nI_le (Nat.le_refl _) (by omega)), gb_b, bd_s, p1]
    cases hq : v.paneOf w with
    | none => rw [hq] at hg; rw [← hg]
    | some q =>
      have := ((paneOf_is W).mp hq).1
      simp only
      rw [decide_eq_true this, Bool.true_and]
  · obtain ⟨p1, p2⟩ := hP
    obtain ⟨c, τ⟩ := a
    simp only at p1 p2 ⊢
    have M1 := p2.sm M
    have e54 : ∀ ρ : Mem, X12_wouldTurn_54 (X12_wouldTurn_5 f) (nI o) (nI w) (nI i) ρ = X12_wouldTurn_5 f (nI o) (nI w) (b2i true) (nI (i + 1)) ρ := fun ρ => by unfold X12_wouldTurn_54 X12_wouldTurn_59; rw [nI_1]; rfl
    have e58 : ∀ ρ : Mem, X12_wouldTurn_58 (X12_wouldTurn_5 f) (nI o) (nI w) (nI i) ρ = X12_wouldTurn_5 f (nI o) (nI w) (b2i false) (nI (i + 1)) ρ := fun ρ => by unfold X12_wouldTurn_58 X12_wouldTurn_59; rw [nI_1]; rfl
    rw [X12_wouldTurn_5, show (3 : Int32) = nI 3 from rfl, a_n M1, bd_s, if_neg (nI_ge hi (by omega))]
    cases hc : c with
    | true =>
      rw [if_neg (show ¬ b2i true = 0 by decide), e54]
      refine ⟨(true, τ), rfl, ?_, p2⟩
      rw [hc] at p1
      cases hq : v.paneOf w with
      | none => rw [hq] at p1; cases p1
      | some q =>
        rw [hq] at p1
        simp only at p1 ⊢
        have p1 := p1.symm
        rw [Bool.and_eq_true, decide_eq_true_eq] at p1
        rw [p1.2, decide_eq_true (by omega)]; rfl
    | false =>
      rw [if_pos (show b2i false = 0 from rfl), show (2 : Int32) = nI 2 from rfl, o_own W M1 hi, bd_s]
      by_cases c0 : v.own i = some w
      · have hq : v.paneOf w = some i := (paneOf_is W).mpr ⟨hi, c0⟩
        rw [hq] at hg
        have hg : v.lits L o i (min 9 (v.like o w + 1)) (v.tp o) = g := hg
        rw [if_pos ((own_is W hi (by omega)).mpr c0), m_liking W M1 ho hw, bd_s, nI_1, show (9 : Int32) = nI 9 from rfl, m_lesser (by omega) (by omega), bd_s]
        obtain ⟨ρ, r1, r2, r3⟩ := m_wouldLight W M1 K p2.1.2.2 (w := o) (p := i) (likes := min 9 (v.like o w + 1)) ho hi
        rw [r1, bd2_s, hg]
        have p3 : ML σ ρ := p2.trans ⟨r2, r3⟩
        cases hgg : g with
        | true => rw [if_neg (show ¬ b2i true = 0 by decide), e54]; exact ⟨(true, ρ), rfl, by rw [hq]; simp, p3⟩
        | false => rw [if_pos (show b2i false = 0 from rfl), e58]; exact ⟨(false, ρ), rfl, by rw [hq]; simp, p3⟩
      · rw [if_neg (fun z => c0 ((own_is W hi (by omega)).mp z)), e58]
        refine ⟨(false, τ), rfl, ?_, p2⟩
        rw [hc] at p1
        cases hq : v.paneOf w with
        | none => rfl
        | some q =>
          rw [hq] at p1
          simp only at p1 ⊢
          have hne : q ≠ i := fun z => c0 (by rw [← z]; exact ((paneOf_is W).mp hq).2)
          rw [p1]
          congr 1
          apply decide_eq_decide.mpr
          omega
theorem m_turnOf (W : WF v) (M : SM (σ 400) v) (K : LT v.txt L) (hb : BO σ) {w : Nat} (hw : w < v.k) : ∃ σ2, X12_turnOf (nI w) σ = some (oI (v.turnOf L w), σ2) ∧ ML σ σ2 := by
  have h9 := W.n9
  have h6 := W.k6
  have hpl := W.pl w hw
  unfold X12_turnOf View.turnOf
  rw [show (0 : Int32) = nI 0 from rfl, show (-1 : Int32) = oI none from rfl]
  let en : Option Nat → Int32 := fun a => a.elim 2000000000 (fun x => nI ((v.far (v.pl w) x).getD 0))
  refine loop_P (L := fun f (a : Option Nat × Mem) i => X12_turnOf_9 f (nI w) (oI a.1) (en a.1) i a.2) (P := fun i a => a.1 = iterN (v.nearer L w) none i ∧ ML σ a.2) (Q := fun r => ∃ σ2, r = some (oI (iterN (v.nearer L w) none v.n), σ2) ∧ ML σ σ2) (n := v.n) (a := (none, σ)) (fun f a hP => ?_) (fun f a i hi hP => Or.inr ?_) (Nat.zero_le _) (FUb (by omega)) ⟨rfl, ML.refl hb⟩
  · obtain ⟨p1, p2⟩ := hP
    refine ⟨a.2, ?_, p2⟩
    show X12_turnOf_9 (f + 1) (nI w) _ _ (nI v.n) a.2 = _
    rw [X12_turnOf_9, show (3 : Int32) = nI 3 from rfl, a_n (p2.sm M), bd_s, if_pos (nI_le (Nat.le_refl _) (by omega)), p1]
  · obtain ⟨p1, p2⟩ := hP
    obtain ⟨a, τ⟩ := a
    simp only at p1 p2 ⊢
    have M1 := p2.sm M
    rw [X12_turnOf_9, show (3 : Int32) = nI 3 from rfl, a_n M1, bd_s, if_neg (nI_ge hi (by omega)), show (2 : Int32) = nI 2 from rfl, o_own W M1 hi, bd_s, show (0 : Int32) = nI 0 from rfl, o_pl W M1 hw, bd_s, m_far W M1 hpl hi, bd_s, iterN, ← p1, nI_1]
    unfold View.nearer View.trade
    cases ho : v.own i with
    | none =>
      rw [if_pos (show oI none = -1 from rfl)]
      refine ⟨(a, τ), rfl, ?_, p2⟩
      cases v.far (v.pl w) i with
      | none => rfl
      | some d => simp only [Bool.and_false, Bool.false_eq_true, if_false]
    | some o =>
      have hok := W.own i o hi ho
      rw [if_neg (show ¬ oI (some o) = -1 from nI_m1 (by omega)), oI_s]
      simp only
      by_cases c : o = w
      · rw [if_pos (by rw [c])]
        refine ⟨(a, τ), rfl, ?_, p2⟩
        cases v.far (v.pl w) i with
        | none => rfl
        | some d => simp only [if_pos c, Bool.and_false, Bool.false_eq_true, if_false]
      · rw [if_neg (fun z => c (nI_inj (by omega) (by omega) z))]
        simp only [if_neg c]
        cases hf : v.far (v.pl w) i with
        | none => rw [if_pos (show oI none = -1 from rfl)]; exact ⟨(a, τ), rfl, rfl, p2⟩
        | some d =>
          have hd := far_lt hf
          rw [if_neg (show ¬ oI (some d) = -1 from nI_m1 (by omega)), oI_s]
          simp only
          have hen : (en a ≤ nI d) ↔ ¬ (a.elim true (fun x => decide (d < (v.far (v.pl w) x).getD 0)) = true) := by
            cases ha : a with
            | none =>
              simp only [en, Option.elim_none, not_true_eq_false, iff_false]
              exact nI_ge (b := 2000000000) (by omega) (by decide)
            | some x =>
              obtain ⟨x1, d2, x2⟩ := nearer_lt (p1.symm.trans ha)
              have := far_lt x2
              simp only [en, Option.elim_some, x2, Option.getD_some, decide_eq_true_eq, Nat.not_lt]
              exact nI_leI (by omega) (by omega)
          by_cases ce : en a ≤ nI d
          · rw [if_pos ce]
            have := hen.mp ce
            rw [Bool.not_eq_true] at this
            rw [this, Bool.false_and, if_neg (by decide)]
            exact ⟨(a, τ), rfl, rfl, p2⟩
          · rw [if_neg ce]
            have : a.elim true (fun x => decide (d < (v.far (v.pl w) x).getD 0)) = true := by
              cases hh : a.elim true (fun x => decide (d < (v.far (v.pl w) x).getD 0)) with
              | true => rfl
              | false => exact absurd (hen.mpr (by rw [hh]; decide)) ce
            rw [this, Bool.true_and]
            obtain ⟨ρ, r1, r2, r3⟩ := m_doesLight W M1 K p2.1.2.2 (w := w) (p := i) hw hi
            have p3 : ML σ ρ := p2.trans ⟨r2, r3⟩
            have hlo : v.lo w i = v.like w o := by unfold View.lo; rw [ho]
            rw [hlo] at r1
            rw [r1, bd2_s]
            have fin : ∀ ρ2, ∃ a' : Option Nat × Mem, X12_turnOf_9 f (nI w) (nI i) (nI d) (nI (i + 1)) ρ2 = X12_turnOf_9 f (nI w) (oI a'.1) (en a'.1) (nI (i + 1)) a'.2 ∧ a'.1 = some i ∧ a'.2 = ρ2 := by
              intro ρ2
              refine ⟨(some i, ρ2), ?_, rfl, rfl⟩
              show _ = X12_turnOf_9 f (nI w) (nI i) (nI ((v.far (v.pl w) i).getD 0)) (nI (i + 1)) ρ2
              rw [hf]; rfl
            cases hl : v.lits L w i (v.like w o) (v.tp w) with
            | false =>
              rw [if_pos (show b2i false = nI 0 from rfl)]
              refine ⟨(a, ρ), rfl, ?_, p3⟩
              cases v.paneOf w with
              | none => simp only [Bool.false_eq_true, if_false]
              | some q => simp only [Bool.false_and, Bool.false_eq_true, if_false]
            | true =>
              rw [if_neg (show ¬ b2i true = nI 0 by decide)]
              obtain ⟨ρ2, s1, s2⟩ := m_wouldTurn W (p3.sm M) K p3.1.2.2 hw hok
              rw [s1, bd2_s]
              have p4 : ML σ ρ2 := p3.trans s2
              cases hq : v.paneOf w with
              | none => simp only; rw [if_pos (show b2i false = nI 0 from rfl)]; exact ⟨(a, ρ2), rfl, by simp only [Bool.false_eq_true, if_false], p4⟩
              | some q =>
                simp only [Bool.true_and]
                rcases Bool.eq_false_or_eq_true (v.lits L o q (min 9 (v.like o w + 1)) (v.tp o)) with hl2 | hl2
                · obtain ⟨a', e1, e2, e3⟩ := fin ρ2
                  refine ⟨a', ?_, ?_, by rw [e3]; exact p4⟩
                  · rw [← e1, if_neg (by rw [hl2]; decide)]
                  · rw [e2, if_pos hl2]
                · refine ⟨(a, ρ2), ?_, ?_, p4⟩
                  · rw [if_pos (by rw [hl2]; rfl)]
                  · rw [if_neg (by rw [hl2]; decide)]
/-! favours: on and on -/
noncomputable def View.pts (v : View) (L : Lw) (w : Nat) : Option Nat := (v.turnOf L w).bind v.own
theorem turnOf_lt {w p : Nat} (h : v.turnOf L w = some p) : p < v.n := (nearer_lt h).1
theorem trade_own {w p : Nat} (h : v.trade L w p = true) : ∃ o, v.own p = some o ∧ o ≠ w := by
  unfold View.trade at h
  cases ho : v.own p with
  | none => rw [ho] at h; cases h
  | some o =>
    rw [ho] at h
    simp only at h
    split at h
    · cases h
    · rename_i c; exact ⟨o, rfl, c⟩
theorem nearer_trade {w i x : Nat} : iterN (v.nearer L w) none i = some x → v.trade L w x = true := by
  induction i generalizing x with
  | zero => intro h; cases h
  | succ i ih =>
    intro h
    rw [iterN] at h
    unfold View.nearer at h
    cases hf : v.far (v.pl w) i with
    | none => rw [hf] at h; exact ih h
    | some d =>
      rw [hf] at h
      simp only at h
      split at h
      · rename_i c; cases h; rw [Bool.and_eq_true] at c; exact c.2
      · exact ih h
theorem pts_lt (W : WF v) {w o : Nat} (h : v.pts L w = some o) : o < v.k := by
  unfold View.pts at h
  cases ht : v.turnOf L w with
  | none => rw [ht] at h; cases h
  | some p => rw [ht] at h; exact W.own p o (turnOf_lt ht) h
theorem pts_some {w p : Nat} (ht : v.turnOf L w = some p) : ∃ o, v.own p = some o := by
  obtain ⟨o, h, -⟩ := trade_own (nearer_trade ht)
  exact ⟨o, h⟩
/-- so many steps on -/
noncomputable def View.onn (v : View) (L : Lw) (w : Nat) : Nat → Option Nat
  | 0 => some w
  | m + 1 => (v.onn L w m).bind (v.pts L)
noncomputable def View.back6 (v : View) (L : Lw) (w : Nat) : Bool := anyR (fun i => decide (v.onn L w i = some w)) 1 6
theorem e_back (W : WF v) (R : SC σ 9 v e) (K : LC σ 72 L) {w : Nat} (hw : w < v.k) : ∃ σ2, X1_comesBack 9 72 (nI w) σ = some (b2i (v.back6 L w), σ2) ∧ FL σ σ2 := by
  have h6 := W.k6
  have h9 := W.n9
  unfold X1_comesBack View.back6
  have key : ∀ (m i fuel o : Nat) (τ : Mem), i + m = 6 → m < fuel → o < v.k → v.onn L w i = some o → FL σ τ → ∃ σ2, X1_comesBack_6 fuel 9 72 (nI w) (nI o) (nI i) τ = some (b2i (anyR (fun i => decide (v.onn L w i = some w)) (i + 1) m), σ2) ∧ FL σ σ2 := by
    intro m
    induction m with
    | zero =>
      intro i fuel o τ hi hf ho hon hfl
      obtain ⟨fuel, rfl⟩ : ∃ z, fuel = z + 1 := ⟨fuel - 1, by omega⟩
      rw [X1_comesBack_6, if_pos (show (6 : Int32) ≤ nI i from nI_le (a := 6) (by omega) (by omega))]
      exact ⟨τ, rfl, hfl⟩
    | succ m ih =>
      intro i fuel o τ hi hf ho hon hfl
      obtain ⟨fuel, rfl⟩ : ∃ z, fuel = z + 1 := ⟨fuel - 1, by omega⟩
      obtain ⟨ρ, r1, r2⟩ := e_turnOf W (hfl.sc R) (hfl.lc K) ho
      have f2 := hfl.trans r2
      have hstep : v.onn L w (i + 1) = v.pts L o := by show (v.onn L w i).bind (v.pts L) = _; rw [hon]; rfl
      rw [X1_comesBack_6, if_neg (show ¬ (6 : Int32) ≤ nI i from nI_ge (b := 6) (by omega) (by omega)), r1, bd2_s, anyR]
      cases ht : v.turnOf L o with
      | none =>
        rw [if_pos (show oI none = -1 from rfl)]
        have hn : v.onn L w (i + 1) = none := by rw [hstep]; unfold View.pts; rw [ht]; rfl
        have hall : ∀ x, i + 1 ≤ x → v.onn L w x = none := by
          intro x hx
          induction x with
          | zero => omega
          | succ x ih2 =>
            by_cases e : x = i
            · rw [e]; exact hn
            · show (v.onn L w x).bind _ = none; rw [ih2 (by omega)]; rfl
        have : (decide (v.onn L w (i + 1) = some w) || anyR (fun i => decide (v.onn L w i = some w)) (i + 1 + 1) m) = false := by
          rw [hn]
          rw [← Bool.not_eq_true]
          intro z
          rw [Bool.or_eq_true] at z
          rcases z with z | z
          · simp at z
          · obtain ⟨p, p1, p2, p3⟩ := anyR_iff.mp z
            rw [hall p (by omega)] at p3
            simp at p3
        rw [this]
        exact ⟨ρ, rfl, f2⟩
      | some p =>
        have hp := turnOf_lt ht
        obtain ⟨o2, ho2⟩ := pts_some ht
        have ho2k := W.own p o2 hp ho2
        have hon2 : v.onn L w (i + 1) = some o2 := by rw [hstep]; unfold View.pts; rw [ht]; exact ho2
        rw [if_neg (show ¬ oI (some p) = -1 from nI_m1 (by omega)), oI_s, g_own kd9' W (f2.sc R) hp, bd_s, ho2, oI_s, hon2]
        by_cases c : o2 = w
        · rw [if_pos (by rw [c]), c]
          simp only [decide_true, Bool.true_or]
          exact ⟨ρ, rfl, f2⟩
        · rw [if_neg (fun z => c (nI_inj (by omega) (by omega) z)), decide_eq_false (fun z => c (by cases z; rfl)), Bool.false_or, nI_1]
          exact ih (i + 1) fuel o2 ρ (by omega) (by omega) ho2k hon2 f2
  exact key 6 0 FU w σ rfl (FUb (by omega)) hw rfl FL.refl
theorem m_pts (W : WF v) (M : SM (σ 400) v) (K : LT v.txt L) (hb : BO σ) {w : Nat} (hw : w < v.k) : ∃ σ2, X12_pointsTo (nI w) σ = some (oI (v.pts L w), σ2) ∧ ML σ σ2 := by
  have h9 := W.n9
  obtain ⟨ρ, r1, r2⟩ := m_turnOf W M K hb hw
  unfold X12_pointsTo View.pts
  rw [r1, bd2_s]
  cases ht : v.turnOf L w with
  | none => rw [if_pos (show oI none = -1 from rfl)]; exact ⟨ρ, rfl, r2⟩
  | some p =>
    have hp := turnOf_lt ht
    rw [if_neg (show ¬ oI (some p) = -1 from nI_m1 (by omega)), oI_s, show (2 : Int32) = nI 2 from rfl, o_own W (r2.sm M) hp, bd_s]
    exact ⟨ρ, rfl, r2⟩
end TURN

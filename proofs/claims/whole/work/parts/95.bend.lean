/-! panes that part -/
/-- the street without a pane's ways -/
noncomputable def View.off (v : View) (x : Nat) : View := v.w_way (fun a b => v.way a b && !decide (a = x) && !decide (b = x))
/-- what is reached with it, itself left out -/
noncomputable def View.dd (v : View) (x : Nat) : Nat → Bool := fun q => v.ball x 9 q && !decide (q = x)
noncomputable def View.prt (v : View) (x : Nat) : Bool := anyR (fun y => !decide (y = x) && !decide (mkB (fun q => v.ball y 9 q && !decide (q = x)) v.n = mkB ((v.off x).ball y 9) v.n)) 0 v.n
section BEND
variable {σ σ1 σ2 : Mem} {v u : View} {L : Lw} {j e x : Nat} {x1 x2 x3 x4 x5 : Int32}
theorem off_n : (v.off x).n = v.n := by unfold View.off; simp only [VR]
theorem off_way : (v.off x).way = fun a b => v.way a b && !decide (a = x) && !decide (b = x) := by unfold View.off; simp only [VR]
theorem off_W (W : WF v) : WF (v.off x) := by
  unfold View.off
  exact (by
    unfold WF
    try simp only [VR]
    exact ⟨W.n9, W.k6, W.texts, W.hour, W.night, W.fog, W.oil, W.dark, W.own, W.one, W.burn, fun a b ha hb => by rw [W.sym a b ha hb, Bool.and_assoc, Bool.and_assoc, Bool.and_comm (!decide (a = x))], fun a ha => by rw [W.irr a ha]; rfl, W.pl, W.tp, W.lt, W.hd, W.like, W.self, W.log, W.rows⟩)
theorem clo_ball {g : Nat → Bool} (hg : Clo v g) {p : Nat} (hp : p < v.n) (gp : g p = true) {t q : Nat} (hq : q < v.n) (h : v.ball p t q = true) : g q = true := (reach_clo hg hp gp t q hq).2 h
theorem ball_self {p t : Nat} : v.ball p t p = true := by
  induction t with
  | zero => unfold View.ball; simp
  | succ t ih => exact ball_mono ih
theorem same_comp (W : WF v) {p q : Nat} (hp : p < v.n) (hq : q < v.n) (h : v.ball p 9 q = true) : ∀ r, r < v.n → v.ball p 9 r = v.ball q 9 r := by
  intro r hr
  apply Bool.eq_iff_iff.mpr
  constructor
  · intro h2
    exact clo_ball (ball_clo W hq) hp ((ball_sym W 9 p q hp hq).mp h) hr h2
  · intro h2
    exact clo_ball (ball_clo W hp) hq h hr h2
theorem off_ball {y : Nat} (hy : y ≠ x) : ∀ t q, q < v.n → (v.off x).ball y t q = true → q ≠ x ∧ v.ball y t q = true := by
  intro t
  induction t with
  | zero =>
    intro q hq h
    unfold View.ball at h ⊢
    rw [decide_eq_true_eq] at h
    subst h
    exact ⟨hy, by simp⟩
  | succ t ih =>
    intro q hq h
    rcases sp_iff.mp h with h | ⟨r, r1, r2, r3⟩
    · exact ⟨(ih q hq h).1, ball_mono (ih q hq h).2⟩
    · rw [off_n] at r1
      rw [off_way] at r3
      simp only [Bool.and_eq_true, Bool.not_eq_true', decide_eq_false_iff_not] at r3
      exact ⟨r3.2, sp_iff.mpr (Or.inr ⟨r, r1, (ih r r1 r2).2, r3.1.1⟩)⟩
/-- away from it, nothing is changed -/
theorem off_far (W : WF v) {y : Nat} (hx : x < v.n) (hyn : y < v.n) (hy : y ≠ x) (h : v.ball x 9 y = false) : ∀ q, q < v.n → (v.off x).ball y 9 q = (v.ball y 9 q && !decide (q = x)) := by
  have nx : ∀ t q, t ≤ 9 → q < v.n → v.ball y t q = true → q ≠ x := by
    intro t q ht hq hb z
    subst z
    have := (ball_sym W 9 y q hyn hq).mp (ball_le ht hb)
    rw [h] at this; cases this
  have up : ∀ t q, t ≤ 9 → q < v.n → v.ball y t q = true → (v.off x).ball y t q = true := by
    intro t
    induction t with
    | zero => intro q _ _ hb; exact hb
    | succ t ih =>
      intro q ht hq hb
      rcases sp_iff.mp hb with hb2 | ⟨r, r1, r2, r3⟩
      · exact ball_mono (ih q (by omega) hq hb2)
      · refine sp_iff.mpr (Or.inr ⟨r, by rw [off_n]; exact r1, ih r (by omega) r1 r2, ?_⟩)
        rw [off_way]
        simp only [Bool.and_eq_true, Bool.not_eq_true', decide_eq_false_iff_not]
        exact ⟨⟨r3, nx t r (by omega) r1 r2⟩, nx (t + 1) q ht hq hb⟩
  intro q hq
  apply Bool.eq_iff_iff.mpr
  constructor
  · intro hb
    obtain ⟨a, b⟩ := off_ball hy 9 q hq hb
    rw [b, decide_eq_false a]; rfl
  · intro hb
    rw [Bool.and_eq_true] at hb
    exact up 9 q (Nat.le_refl _) hq hb.1
theorem mk_iff {f g : Nat → Bool} {n : Nat} (hn : n ≤ 9) : mkB f n = mkB g n ↔ ∀ i, i < n → f i = g i := ⟨mk_inj (by omega), mk_congr⟩
theorem prt_r (W : WF v) (hx : x < v.n) {r : Nat} (hr : r < v.n) (hd : v.dd x r = true) : v.prt x = !decide (mkB ((v.off x).ball r 9) v.n = mkB (v.dd x) v.n) := by
  have h9 := W.n9
  have W2 := off_W (x := x) W
  unfold View.dd at hd
  simp only [Bool.and_eq_true, Bool.not_eq_true', decide_eq_false_iff_not] at hd
  obtain ⟨d1, d2⟩ := hd
  have comp : ∀ y, y < v.n → v.ball x 9 y = true → ∀ q, q < v.n → (v.ball y 9 q && !decide (q = x)) = v.dd x q := by
    intro y hy h q hq
    unfold View.dd
    rw [same_comp W hx hy h q hq]
  by_cases c : mkB ((v.off x).ball r 9) v.n = mkB (v.dd x) v.n
  · rw [decide_eq_true c]
    show _ = false
    have c := (mk_iff h9).mp c
    unfold View.prt
    rw [anyR_no]
    intro y _ hy
    have hy : y < v.n := by omega
    by_cases e : y = x
    · rw [decide_eq_true e]; rfl
    · rw [decide_eq_false e, Bool.not_false, Bool.true_and, Bool.not_eq_false', decide_eq_true_eq, mk_iff h9]
      intro q hq
      cases hb : v.ball x 9 y with
      | false => rw [off_far W hx hy e hb q hq]
      | true =>
        rw [comp y hy hb q hq, ← c q hq]
        have hry : (v.off x).ball r 9 y = true := by
          rw [c y hy]
          unfold View.dd
          rw [hb, decide_eq_false e]; rfl
        exact same_comp W2 (by rw [off_n]; exact hr) (by rw [off_n]; exact hy) hry q (by rw [off_n]; exact hq)
  · rw [decide_eq_false c]
    show _ = true
    refine anyR_iff.mpr ⟨r, Nat.zero_le _, by omega, ?_⟩
    rw [decide_eq_false d2, Bool.not_false, Bool.true_and, Bool.not_eq_true', decide_eq_false_iff_not]
    intro z
    apply c
    rw [← z]
    exact mk_congr fun q hq => comp r hr d1 q hq
theorem prt_0 (W : WF v) (hx : x < v.n) (hd : ∀ q, q < v.n → v.dd x q = false) : v.prt x = false := by
  have h9 := W.n9
  unfold View.prt
  rw [anyR_no]
  intro y _ hy
  have hy : y < v.n := by omega
  by_cases e : y = x
  · rw [decide_eq_true e]; rfl
  · rw [decide_eq_false e, Bool.not_false, Bool.true_and, Bool.not_eq_false', decide_eq_true_eq, mk_iff h9]
    intro q hq
    have hb : v.ball x 9 y = false := by
      have := hd y hy
      unfold View.dd at this
      rw [decide_eq_false e, Bool.not_false, Bool.and_true] at this
      exact this
    rw [off_far W hx hy e hb q hq]
theorem dd_reach (W : WF v) (hx : x < v.n) {r : Nat} (hr : r < v.n) (hd : v.dd x r = true) : ∀ t q, t ≤ 9 → q < v.n → v.reach (v.dd x) r t q = (v.off x).ball r t q := by
  have d := hd
  unfold View.dd at d
  simp only [Bool.and_eq_true, Bool.not_eq_true', decide_eq_false_iff_not] at d
  have inD : ∀ t q, t ≤ 9 → q < v.n → (v.off x).ball r t q = true → v.dd x q = true := by
    intro t q ht hq h
    obtain ⟨a, b⟩ := off_ball d.2 t q hq h
    unfold View.dd
    rw [same_comp W hx hr d.1 q hq, ball_le ht b, decide_eq_false a]; rfl
  intro t
  induction t with
  | zero =>
    intro q _ hq
    unfold View.reach View.ball
    by_cases c : q = r
    · subst c; rw [hd]; simp
    · simp [c]
  | succ t ih =>
    intro q ht hq
    apply Bool.eq_iff_iff.mpr
    constructor
    · intro h
      have h : (v.reach (v.dd x) r t q || (v.ar (v.reach (v.dd x) r t) q && v.dd x q)) = true := h
      rw [Bool.or_eq_true] at h
      rcases h with h | h
      · rw [ih q (by omega) hq] at h; exact ball_mono h
      · rw [Bool.and_eq_true] at h
        obtain ⟨a, -, a1, a2⟩ := anyR_iff.mp h.1
        have a1 : a < v.n := by omega
        rw [Bool.and_eq_true, ih a (by omega) a1] at a2
        refine sp_iff.mpr (Or.inr ⟨a, by rw [off_n]; exact a1, a2.1, ?_⟩)
        have h2 := h.2
        unfold View.dd at h2
        simp only [Bool.and_eq_true, Bool.not_eq_true', decide_eq_false_iff_not] at h2
        rw [off_way]
        simp only [Bool.and_eq_true, Bool.not_eq_true', decide_eq_false_iff_not]
        exact ⟨⟨a2.2, (off_ball d.2 t a a1 a2.1).1⟩, h2.2⟩
    · intro h
      show (v.reach (v.dd x) r t q || (v.ar (v.reach (v.dd x) r t) q && v.dd x q)) = true
      rw [Bool.or_eq_true]
      rcases sp_iff.mp h with h2 | ⟨a, a1, a2, a3⟩
      · left; rw [ih q (by omega) hq]; exact h2
      · right
        rw [off_n] at a1
        rw [off_way] at a3
        simp only [Bool.and_eq_true, Bool.not_eq_true', decide_eq_false_iff_not] at a3
        rw [Bool.and_eq_true]
        exact ⟨anyR_iff.mpr ⟨a, Nat.zero_le _, by omega, by rw [ih a (by omega) a1, a2, a3.1.1]; rfl⟩, inD (t + 1) q ht hq h⟩
theorem reach_congr {g g2 : Nat → Bool} (h : ∀ q, q < v.n → g q = g2 q) {p : Nat} : ∀ t q, q < v.n → v.reach g p t q = v.reach g2 p t q := by
  intro t
  induction t with
  | zero => intro q hq; show (decide (q = p) && g q) = (decide (q = p) && g2 q); rw [h q hq]
  | succ t ih =>
    intro q hq
    have key : ∀ (P Q : Nat → Bool) (m i : Nat), (∀ r, i ≤ r → r < i + m → P r = Q r) → anyR P i m = anyR Q i m := by
      intro P Q m
      induction m with
      | zero => intro i _; rfl
      | succ m ih2 => intro i h; rw [anyR, anyR, h i (Nat.le_refl _) (by omega), ih2 (i + 1) (fun r h1 h2 => h r (by omega) (by omega))]
    have har : v.ar (v.reach g p t) q = v.ar (v.reach g2 p t) q := by
      unfold View.ar
      exact key _ _ _ _ fun r _ h2 => by rw [ih r (by omega)]
    show (v.reach g p t q || (v.ar (v.reach g p t) q && g q)) = (v.reach g2 p t q || (v.ar (v.reach g2 p t) q && g2 q))
    rw [ih q hq, har, h q hq]
theorem e_bend (W : WF v) (R : SC σ 9 v e) : X5_partingPanes σ 9 = some (mkB v.prt v.n) := by
  have h9 := W.n9
  unfold X5_partingPanes
  rw [show (0 : Int32) = nI 0 from rfl]
  refine loop_P (L := fun f (a : Int32) i => X5_partingPanes_4 σ f 9 a i) (P := fun i a => a = upTo v.prt v.n i) (Q := fun r => r = some (mkB v.prt v.n)) (n := v.n) (a := nI 0) (fun f a hP => ?_) (fun f a i hi hP => Or.inr ⟨upTo v.prt v.n (i + 1), ?_, rfl⟩) (Nat.zero_le _) (FUb (by omega)) (upTo_0 (by omega)).symm
  · rw [X5_partingPanes_4, R.n, if_pos (nI_le (Nat.le_refl _) (by omega)), hP, upTo_n]
  · have hD : mkB (v.reach (hb (-1)) i 9) v.n &&& (bitv i ^^^ (-1 : Int32)) = mkB (v.dd i) v.n := by
      rw [show bitv i ^^^ (-1 : Int32) = ~~~(bitv i) from xorN, mk_and_not (by omega)]
      apply mk_congr
      intro q hq
      rw [reach_all h9 9 q hq, hb_bit (by omega) (by omega)]
      rfl
    rw [X5_partingPanes_4, R.n, if_neg (nI_ge hi (by omega)), e_reached kd9' W R hi, bd_s, e_bit, bd_s, hD, upTo_s (by omega) hi, hP, nI_1]
    by_cases c0 : mkB (v.dd i) v.n = 0
    · rw [if_pos c0, prt_0 W hi ((mk_eq_0 (by omega)).mp c0), if_neg (by decide)]
    · rw [if_neg c0, e_lowest (by omega), bd_s]
      cases hl : lowL (fun j => decide (j < v.n) && v.dd i j) 0 9 with
      | none =>
        exfalso
        apply c0
        apply (mk_eq_0 (by omega)).mpr
        intro q hq
        have := (lowL_none 9 0).mp hl q (Nat.zero_le _) (by omega)
        rw [decide_eq_true hq, Bool.true_and] at this
        exact this
      | some r =>
        rw [lowL_some] at hl
        obtain ⟨-, -, l3, -⟩ := hl
        rw [Bool.and_eq_true, decide_eq_true_eq] at l3
        obtain ⟨r1, r2⟩ := l3
        have hR : mkB (v.reach (hb (mkB (v.dd i) v.n)) r 9) v.n = mkB ((v.off i).ball r 9) v.n := mk_congr fun q hq => by
          rw [reach_congr (g2 := v.dd i) (fun q hq => by rw [hb_mk (by omega) (by omega), decide_eq_true hq, Bool.true_and]) 9 q hq, dd_reach W hi r1 r2 9 q (Nat.le_refl _) hq]
        rw [oI_s, e_reached kd9' W R r1, bd_s, hR, prt_r W hi r1 r2]
        by_cases c : mkB ((v.off i).ball r 9) v.n = mkB (v.dd i) v.n
        · rw [if_pos c, decide_eq_true c, if_neg (by decide)]
        · rw [if_neg c, decide_eq_false c, bd_s]; rfl
theorem m_pieceX (W : WF v) (M : SM (σ 400) v) {y : Nat} (hx : x < v.n) (hy : y < v.n) (hne : y ≠ x) : X12_pieceOf σ (nI y) (nI x) = some (mkB ((v.off x).ball y 9) v.n) := by
  have h9 := W.n9
  unfold X12_pieceOf
  rw [show (1 : Int32) <<< (nI y &&& 31) = bitv y from rfl, mk_bit (n := v.n) (by omega) hy, show (0 : Int32) = nI 0 from rfl]
  refine loop_P (L := fun f (a : Int32) i => X12_pieceOf_7 σ f (nI x) a i) (P := fun i a => a = mkB ((v.off x).ball y i) v.n) (Q := fun r => r = some (mkB ((v.off x).ball y 9) v.n)) (n := 9) (a := mkB (fun i => decide (i = y)) v.n) (fun f a hP => ?_) (fun f a i hi hP => Or.inr ⟨mkB ((v.off x).ball y (i + 1)) v.n, ?_, rfl⟩) (Nat.zero_le _) (FUb (by omega)) rfl
  · rw [X12_pieceOf_7, if_pos (by decide), hP]
  · rw [X12_pieceOf_7, if_neg (show ¬ (9 : Int32) ≤ nI i from nI_ge (b := 9) (by omega) (by omega)), if_neg (show ¬ nI x = -1 from nI_m1 (by omega)), hP, m_nextTo W M, bd_s]
    unfold X12_pieceOf_39
    rw [show (1 : Int32) <<< (nI x &&& 31) ^^^ (-1 : Int32) = ~~~(bitv x) from xorN, mk_and_not (by omega), mk_or (by omega), nI_1]
    congr 1
    apply mk_congr
    intro q hq
    rw [hb_bit (by omega) (by omega)]
    show _ = ((v.off x).ball y i q || (v.off x).ar ((v.off x).ball y i) q)
    congr 1
    apply Bool.eq_iff_iff.mpr
    rw [Bool.and_eq_true, Bool.not_eq_true', decide_eq_false_iff_not]
    unfold View.ar
    rw [anyR_iff, anyR_iff, off_n, off_way]
    constructor
    · rintro ⟨⟨p, p0, p1, p2⟩, p3⟩
      rw [Bool.and_eq_true] at p2
      exact ⟨p, p0, p1, by simp [p2.1, p2.2, p3, (off_ball hne i p (by omega) p2.1).1]⟩
    · rintro ⟨p, p0, p1, p2⟩
      simp only [Bool.and_eq_true, Bool.not_eq_true', decide_eq_false_iff_not] at p2
      exact ⟨⟨p, p0, p1, by simp [p2.1, p2.2.1.1]⟩, p2.2.2⟩
theorem or_twice {a c : Int32} : (a ||| c) ||| c = a ||| c := ext32 fun i hi => by
  rw [hb_or hi, hb_or hi, Bool.or_assoc, Bool.or_self]
theorem m_bend (W : WF v) (M : SM (σ 400) v) : X12_bend_9 FU 0 0 σ = some (mkB v.prt v.n, σ) := by
  have h9 := W.n9
  rw [show (0 : Int32) = nI 0 from rfl]
  refine loop_P (L := fun f (a : Int32) i => X12_bend_9 f a i σ) (P := fun i a => a = upTo v.prt v.n i) (Q := fun r => r = some (mkB v.prt v.n, σ)) (n := v.n) (a := nI 0) (fun f a hP => ?_) (fun f a i hi hP => Or.inr ⟨upTo v.prt v.n (i + 1), ?_, rfl⟩) (Nat.zero_le _) (FUb (by omega)) (upTo_0 (by omega)).symm
  · rw [X12_bend_9, show (3 : Int32) = nI 3 from rfl, a_n M, bd_s, if_pos (nI_le (Nat.le_refl _) (by omega)), hP, upTo_n]
  · rw [X12_bend_9, show (3 : Int32) = nI 3 from rfl, a_n M, bd_s, if_neg (nI_ge hi (by omega)), show (0 : Int32) = nI 0 from rfl]
    let G : Nat → Bool := fun y => !decide (y = i) && !decide (mkB (fun q => v.ball y 9 q && !decide (q = i)) v.n = mkB ((v.off i).ball y 9) v.n)
    refine loop_P (L := fun f2 (c : Bool) y => X12_bend_21 (X12_bend_9 f) f2 (if c = true then a ||| bitv i else a) (nI i) y σ) (P := fun y c => c = anyR G 0 y) (Q := fun r => r = X12_bend_9 f (upTo v.prt v.n (i + 1)) (nI (i + 1)) σ) (n := v.n) (a := false) (fun f2 c hc => ?_) (fun f2 c y hy hc => Or.inr ⟨anyR G 0 (y + 1), ?_, rfl⟩) (Nat.zero_le _) (FUb (by omega)) rfl
    · rw [X12_bend_21, show (3 : Int32) = nI 3 from rfl, a_n M, bd_s, if_pos (nI_le (Nat.le_refl _) (by omega)), nI_1, upTo_s (by omega) hi, ← hP, show v.prt i = c from hc.symm]
    · rw [X12_bend_21, show (3 : Int32) = nI 3 from rfl, a_n M, bd_s, if_neg (nI_ge hy (by omega)), nI_1, anyR_app, Nat.zero_add, ← hc]
      by_cases e : y = i
      · rw [if_pos (by rw [e]), show G y = false from by show (!decide (y = i) && _) = false; rw [decide_eq_true e]; rfl, Bool.or_false]
      · have hpc : mkB (v.ball y 9) v.n &&& ((1 : Int32) <<< (nI i &&& 31) ^^^ (-1 : Int32)) = mkB (fun q => v.ball y 9 q && !decide (q = i)) v.n := by
          rw [show (1 : Int32) <<< (nI i &&& 31) ^^^ (-1 : Int32) = ~~~(bitv i) from xorN, mk_and_not (by omega)]
          exact mk_congr fun q hq => by rw [hb_bit (by omega) (by omega)]
        rw [if_neg (fun z => e (nI_inj (by omega) (by omega) z)), m_piece W M hy, bd_s, m_pieceX W M hi hy e, bd_s, hpc]
        by_cases d : mkB (fun q => v.ball y 9 q && !decide (q = i)) v.n = mkB ((v.off i).ball y 9) v.n
        · rw [if_pos d, show G y = false from by show (!decide (y = i) && !decide _) = false; rw [decide_eq_true d]; simp, Bool.or_false]
        · rw [if_neg d, show G y = true from by show (!decide (y = i) && !decide _) = true; rw [decide_eq_false d, decide_eq_false e]; rfl, Bool.or_true, if_pos rfl]
          show X12_bend_21 (X12_bend_9 f) f2 ((if c = true then a ||| bitv i else a) ||| bitv i) (nI i) (nI (y + 1)) σ = _
          cases c with
          | true => rw [if_pos rfl, or_twice]
          | false => rw [if_neg (by decide)]
theorem r_26 (hC : Core (1000 * j) σ v L) (hR : Rest (1000 * j) σ v.txt) : ∃ σ3, lw_26 x1 x2 x3 x4 x5 σ = some (true, σ3) ∧ Inv (j + 1) σ3 := by
  obtain ⟨W, R, M, -⟩ := id hC
  refine rr0 hC hR (b := mkB v.prt v.n) ?_ ?_
  · unfold X11_bend; rw [e_bend W R, bd_s]
  · unfold X12_bend
    rw [pu_s, bd_s]
    exact m_bend W (sm_th M)
end BEND

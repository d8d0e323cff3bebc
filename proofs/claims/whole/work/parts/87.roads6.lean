/-! ways, strikes and snuffs, hours -/
section ROADS6
variable {σ σ1 σ2 : Mem} {v u : View} {L : Lw} {j nx K e : Nat} {x1 x2 x3 x4 x5 : Int32} {a b : Nat → Int32}
theorem SM.s_ways (M : SM a v) (h9 : v.n ≤ 9) (h6 : v.k ≤ 6) (h60 : v.log.length ≤ 60) {g : Nat → Nat → Bool} (h : ∀ i, i < 47 ∨ 128 ≤ i → b i = a i) (hg : ∀ p q, p < v.n → q < v.n → b (47 + 9 * p + q) = b2i (g p q)) : SM b (v.w_way g) := by
  unfold SM
  simp only [VR]
  exact ⟨by rw [h _ (by omega)]; exact M.texts, by rw [h _ (by omega)]; exact M.n, by rw [h _ (by omega)]; exact M.k, by rw [h _ (by omega)]; exact M.hour, by rw [h _ (by omega)]; exact M.night, by rw [h _ (by omega)]; exact M.fog, by rw [h _ (by omega)]; exact M.mist, by rw [h _ (by omega)]; exact M.logs, by rw [h _ (by omega)]; exact M.seed, fun q hq => by rw [h _ (by omega)]; exact M.oil q hq, fun q hq => by rw [h _ (by omega)]; exact M.burn q hq, fun q hq => by rw [h _ (by omega)]; exact M.own q hq, fun q hq => by rw [h _ (by omega)]; exact M.dark q hq, hg, fun q hq => by rw [h _ (by omega)]; exact M.pl q hq, fun q hq => by rw [h _ (by omega)]; exact M.tp q hq, fun q hq => by rw [h _ (by omega)]; exact M.hd q hq, fun q hq => by rw [h _ (by omega)]; exact M.lt q hq, fun q r hq hr => by rw [h _ (by omega)]; exact M.like q r hq hr,
    fun i r hi => by
      have hi2 := (List.getElem?_eq_some_iff.mp hi).1
      obtain ⟨h1, h2, h3, h4, h5⟩ := M.log i r hi
      refine ⟨?_, ?_, ?_, ?_, ?_⟩ <;> (rw [h _ (by omega)]; assumption), fun i hi => by rw [h _ (by omega)]; exact M.txt i hi⟩
def wayS (w : Nat → Nat → Bool) (p q : Nat) (x : Bool) : Nat → Nat → Bool := fun a b => if (a = p ∧ b = q) ∨ (a = q ∧ b = p) then x else w a b
theorem e_setWay (hB : kd 9 = 2) (W : WF v) (R : SC σ 9 v e) {p q : Nat} (hp : p < v.n) (hq : q < v.n) (hpq : p ≠ q) {x : Bool} : ∃ σ2, X7_setWay 9 (nI p) (nI q) (b2i x) σ = some σ2 ∧ SC σ2 9 (v.w_way (wayS v.way p q x)) e ∧ ∀ c, c ≠ 17 → σ2 c = σ c := by
  have h9 := W.n9
  have l17 : ln (16 + 1) = 9 := by decide +kernel
  have hv : v.w_way (wayS v.way p q x) = (v.w_way (fun a => if a = p then (fun b => if b = q then x else v.way p b) else v.way a)).w_way (fun a => if a = q then (fun b => if b = p then x else v.way q b) else if a = p then (fun b => if b = q then x else v.way p b) else v.way a) := by
    rw [View.ww_way]
    congr 1
    funext a b
    unfold wayS
    by_cases c1 : a = p
    · subst c1
      have c2 : ¬ a = q := hpq
      rw [if_neg c2, if_pos rfl]
      by_cases c3 : b = q
      · rw [if_pos c3, if_pos (Or.inl ⟨rfl, c3⟩)]
      · rw [if_neg c3, if_neg (by rintro (⟨-, z⟩ | ⟨z, -⟩); exact c3 z; exact c2 z)]
    · by_cases c2 : a = q
      · subst c2
        rw [if_pos rfl]
        by_cases c3 : b = p
        · rw [if_pos c3, if_pos (Or.inr ⟨rfl, c3⟩)]
        · rw [if_neg c3, if_neg (by rintro (⟨z, -⟩ | ⟨-, z⟩); exact c1 z; exact c3 z)]
      · rw [if_neg c2, if_neg c1, if_neg (by rintro (⟨z, -⟩ | ⟨z, -⟩); exact c1 z; exact c2 z)]
  have R1 := R.s_way p (fun b => if b = q then x else v.way p b)
  have W0 : v.n = (v.w_way (fun a => if a = p then (fun b => if b = q then x else v.way p b) else v.way a)).n := by simp only [VR]
  have R2 := R1.s_way q (fun b => if b = p then x else v.way q b)
  have g1 : ∀ (τ : Mem) (i : Nat), i < 9 → X6_get τ (9 + 7) (nI i) = some (τ 17 i) := fun τ i hi => e_get (B := 16) (by rw [l17]; omega) (by rw [l17]; decide)
  have s1 : ∀ (τ : Mem) (i : Nat) (y : Int32), i < 9 → X6_set (9 + 7) (nI i) y τ = some (st τ 17 i y) := fun τ i y hi => e_set (B := 16) (by rw [l17]; omega) (by rw [l17]; decide)
  have w1 : σ 17 p = mkB (v.way p) v.n := R.way p hp
  have w2 : ∀ y, st σ 17 p y 17 q = mkB (v.way q) v.n := fun y => by rw [st_at' (fun z => hpq z.symm)]; exact R.way q hq
  have hR2 : SC (st (st σ 17 p (mkB (fun b => if b = q then x else v.way p b) v.n)) 17 q (mkB (fun b => if b = p then x else v.way q b) v.n)) 9 (v.w_way (wayS v.way p q x)) e := by
    rw [hv]
    have e2 : (v.w_way (fun a => if a = p then (fun b => if b = q then x else v.way p b) else v.way a)).n = v.n := by simp only [VR]
    rw [e2] at R2
    have e3 : (fun a => if a = q then (fun b => if b = p then x else v.way q b) else (v.w_way (fun a => if a = p then (fun b => if b = q then x else v.way p b) else v.way a)).way a) = (fun a => if a = q then (fun b => if b = p then x else v.way q b) else if a = p then (fun b => if b = q then x else v.way p b) else v.way a) := by simp only [VR]
    rw [e3] at R2
    exact R2
  refine ⟨_, ?_, hR2, fun c hc => by rw [st_n hc, st_n hc]⟩
  unfold X7_setWay
  cases x with
  | true =>
    rw [if_neg (show ¬ b2i true = 0 by decide), g1 _ p (by omega), bd_s, e_bit, bd_s, s1 _ p _ (by omega), bd_s, g1 _ q (by omega), bd_s, e_bit, bd_s, s1 _ q _ (by omega), bd_s, w1, w2]
    have m1 : mkB (v.way p) v.n ||| bitv q = mkB (fun b => if b = q then true else v.way p b) v.n := by
      rw [mk_bit (n := v.n) (by omega) hq, mk_or (by omega)]
      apply mk_congr
      intro i hi
      by_cases c : i = q <;> simp [c]
    have m2 : mkB (v.way q) v.n ||| bitv p = mkB (fun b => if b = p then true else v.way q b) v.n := by
      rw [mk_bit (n := v.n) (by omega) hp, mk_or (by omega)]
      apply mk_congr
      intro i hi
      by_cases c : i = p <;> simp [c]
    rw [m1, m2]
  | false =>
    rw [if_pos (show b2i false = 0 from rfl), g1 _ p (by omega), bd_s, e_bit, bd_s, s1 _ p _ (by omega), bd_s, g1 _ q (by omega), bd_s, e_bit, bd_s, s1 _ q _ (by omega), bd_s, w1, w2, show (-1 : Int32) = oI none from rfl, xorN, xorN]
    have m1 : mkB (v.way p) v.n &&& ~~~(bitv q) = mkB (fun b => if b = q then false else v.way p b) v.n := by
      rw [mk_and_not (by omega)]
      apply mk_congr
      intro i hi
      rw [hb_bit (by omega) (by omega)]
      by_cases c : i = q <;> simp [c]
    have m2 : mkB (v.way q) v.n &&& ~~~(bitv p) = mkB (fun b => if b = p then false else v.way q b) v.n := by
      rw [mk_and_not (by omega)]
      apply mk_congr
      intro i hi
      rw [hb_bit (by omega) (by omega)]
      by_cases c : i = p <;> simp [c]
    rw [m1, m2]
theorem m_ways (W : WF v) (M : SM (σ 400) v) {p q : Nat} (hp : p < v.n) (hq : q < v.n) {x : Bool} : ∃ σ2, X12_ways (nI p) (nI q) (b2i x) σ = some σ2 ∧ SM (σ2 400) (v.w_way (wayS v.way p q x)) ∧ ∀ c, c ≠ 400 → σ2 c = σ c := by
  have h9 := W.n9
  have ix : ∀ p q, ((47 : Int32) + ((9 : Int32) * nI p)) + nI q = nI (47 + 9 * p + q) := fun p q => by
    rw [show (47 : Int32) = nI 47 from rfl, show (9 : Int32) = nI 9 from rfl, nI_mul, nI_add, nI_add]
  unfold X12_ways
  rw [ix, ix, m_set (by omega), bd_s, m_set (by omega), bd_s]
  refine ⟨_, rfl, ?_, fun c hc => by rw [st_n hc, st_n hc]⟩
  refine M.s_ways h9 W.k6 W.log (fun i hi => ?_) (fun a b ha hb => ?_)
  · rw [st_at' (by omega), st_at' (by omega)]
  · unfold wayS
    by_cases c : (a = p ∧ b = q) ∨ (a = q ∧ b = p)
    · rw [if_pos c]
      rcases c with ⟨rfl, rfl⟩ | ⟨rfl, rfl⟩
      · by_cases d : a = b
        · subst d; rw [st_at]
        · rw [st_at' (by omega), st_at]
      · rw [st_at]
    · rw [if_neg c, st_at' (fun z => c (Or.inr (by omega))), st_at' (fun z => c (Or.inl (by omega)))]
      exact M.way a b ha hb
theorem c_18 (hC : Core (1000 * j) σ v L) (hR : Rest (1000 * j) σ v.txt) : ∀ x : Bool, ∃ σ3, (bd2 (L_way x1 x2 (b2i x) σ) fun r1 τ1 => bd2 (X12_way x1 x2 (b2i x) τ1) fun r2 τ2 => bd (X12_thrown τ2) fun r3 => if r3 = r1 then (if r1 = 0 then (if r2 = 0 then (if (lg_cmp ((τ2 411 0).toInt64) ((0 : Int64))) = 0 then some (true, τ2) else some (false, τ2)) else (if (lg_cmp ((τ2 411 0).toInt64) ((1 : Int64))) = 0 then some (true, τ2) else some (false, τ2))) else some (true, τ2)) else some (false, τ2)) = some (true, σ3) ∧ Inv (j + 1) σ3 := by
  intro x
  obtain ⟨W, R, M, KL, KT, Kl⟩ := id hC
  have h9 := W.n9
  by_cases c1 : isP v.n x1 = true
  · by_cases c2 : isP v.n x2 = true
    · obtain ⟨p, p1, rfl⟩ := isP_t (by omega) c1
      obtain ⟨q, q1, rfl⟩ := isP_t (by omega) c2
      by_cases c3 : p = q
      · subst c3
        refine rbT (Bf := fun τ => X12_way (nI p) (nI p) (b2i x) τ) hC hR (k := nI 2) (r := false) n2 ?_ ?_
        · unfold L_way X11_way X11_needTwoPanes
          rw [e_needPane R, if_pos c1, bdx_l, bdx_l, if_pos rfl, bdx_r, bdx2_r]
          rfl
        · unfold X12_way X12_arePanes
          rw [m_isPane W M, c1, bd_s, if_neg (show ¬ b2i true = 0 by decide), bd_s, if_neg (show ¬ b2i true = 0 by decide), if_pos rfl, pu_s, bd_s, bd_s, st_at, if_neg (by decide)]
          rfl
      · have c3' : ¬ nI p = nI q := fun z => c3 (nI_inj (by omega) (by omega) z)
        have W2 : WF (v.w_way (wayS v.way p q x)) := (by
    unfold WF
    try simp only [VR]
    exact ⟨W.n9, W.k6, W.texts, W.hour, W.night, W.fog, W.oil, W.dark, W.own, W.one, W.burn, 
      fun a b ha hb => by
            unfold wayS
            by_cases c : (a = p ∧ b = q) ∨ (a = q ∧ b = p)
            · rw [if_pos c, if_pos (by omega)]
            · rw [if_neg c, if_neg (by omega)]; exact W.sym a b ha hb, 
      fun a ha => by
            unfold wayS
            rw [if_neg (by omega)]; exact W.irr a ha, W.pl, W.tp, W.lt, W.hd, W.like, W.self, W.log, W.rows⟩)
        have cmp : ∀ y : Bool, (b2i y = b2i x) ↔ y = x := by intro y; cases y <;> cases x <;> decide
        refine rbA (Bf := fun τ => X12_way (nI p) (nI q) (b2i x) τ) (u := v.w_way (wayS v.way p q x)) hC hR (r := !decide (v.way p q = x)) W2 (by simp only [VR]) (fun nx K hn hK h1 h2 => ?_) (fun ρ K hK M1 M2 hb h6 => ?_)
        · obtain ⟨τ, t1, t2, t3, t4⟩ := e_rem hC hn hK h1 h2
          obtain ⟨τ2, s1, s2, s3⟩ := e_setWay kd9 W t3 p1 q1 c3 (x := x)
          refine ⟨τ2, ?_, t2.then hn fun c c1 c2 c3 c4 => s3 c (by omega), s2.mono (by omega)⟩
          unfold L_way X11_way X11_needTwoPanes
          rw [e_needPane R, if_pos c1, bdx_l, e_needPane R, if_pos c2, bdx_l, if_neg c3', bdx_l, t1, bd_s, e_hasWay kd9 W t3 p1 q1, bd_s, s1, bd_s]
          by_cases d : v.way p q = x
          · rw [if_pos ((cmp _).mpr d), decide_eq_true d]; rfl
          · rw [if_neg (fun z => d ((cmp _).mp z)), decide_eq_false d]; rfl
        · obtain ⟨τ, t1, t2, t3, t4⟩ := m_rem hb hK h6
          have M3 : SM (τ 400) v := by rw [t3]; exact M2
          obtain ⟨τ2, s1, s2, s3⟩ := m_ways W M3 p1 q1 (x := x)
          refine ⟨τ2, ?_, t2.then4 s3, s2, by rw [s3 399 (by decide), t4, st_at]⟩
          unfold X12_way X12_arePanes X12_way_39
          rw [m_isPane W M1, c1, bd_s, if_neg (show ¬ b2i true = 0 by decide), m_isPane W M1, c2, bd_s, if_neg (show ¬ b2i true = 0 by decide), if_neg c3', pu_s, bd_s, bd_s, st_at, if_pos (by decide), show st ρ 399 0 0 = st ρ 399 0 (nI 0) from rfl, t1, bd_s, m_isWay W M3 p1 q1, bd_s]
          have fin : (bd (X12_ways (nI p) (nI q) (b2i x) τ) fun σ39 => if b2i (v.way p q) = b2i x then bd (gb (0 : Int32)) fun _ => some ((0 : Int32), σ39) else bd (gb (1 : Int32)) fun _ => some ((1 : Int32), σ39)) = some (b2i (!decide (v.way p q = x)), τ2) := by
            rw [s1, bd_s]
            by_cases d : v.way p q = x
            · rw [if_pos ((cmp _).mpr d), decide_eq_true d]; rfl
            · rw [if_neg (fun z => d ((cmp _).mp z)), decide_eq_false d]; rfl
          cases x with
          | true => rw [if_neg (show ¬ b2i true = 0 by decide)]; exact fin
          | false => rw [if_pos (show b2i false = 0 from rfl)]; exact fin
    · rw [Bool.not_eq_true] at c2
      refine rbT (Bf := fun τ => X12_way x1 x2 (b2i x) τ) hC hR (k := nI 1) (r := false) n0 ?_ ?_
      · unfold L_way X11_way X11_needTwoPanes
        rw [e_needPane R, if_pos c1, bdx_l, e_needPane R, c2, if_neg (by decide), bdx_r, bdx_r, bdx2_r]
        rfl
      · unfold X12_way X12_arePanes
        rw [m_isPane W M, c1, bd_s, if_neg (show ¬ b2i true = 0 by decide), m_isPane W M, c2, bd_s, if_pos (show b2i false = 0 from rfl), pu_s, bd_s, bd_s, st_at, if_neg (by decide)]
        rfl
  · rw [Bool.not_eq_true] at c1
    refine rbT (Bf := fun τ => X12_way x1 x2 (b2i x) τ) hC hR (k := nI 1) (r := false) n0 ?_ ?_
    · unfold L_way X11_way X11_needTwoPanes
      rw [e_needPane R, c1, if_neg (by decide), bdx_r, bdx_r, bdx2_r]
      rfl
    · unfold X12_way X12_arePanes
      rw [m_isPane W M, c1, bd_s, if_pos (show b2i false = 0 from rfl), pu_s, bd_s, bd_s, st_at, if_neg (by decide)]
      rfl
theorem r_18 (hC : Core (1000 * j) σ v L) (hR : Rest (1000 * j) σ v.txt) : ∃ σ3, lw_18 x1 x2 x3 x4 x5 σ = some (true, σ3) ∧ Inv (j + 1) σ3 := by
  unfold lw_18
  by_cases d : x3 = 0
  · simp only [if_pos d]
    exact c_18 hC hR false
  · simp only [if_neg d]
    exact c_18 hC hR true
theorem r_11 (hj : j < 512) (hC : Core (1000 * j) σ v L) (hR : Rest (1000 * j) σ v.txt) : ∃ σ3, lw_11 x1 x2 x3 x4 x5 σ = some (true, σ3) ∧ Inv (j + 1) σ3 := by
  obtain ⟨W, R, M, KL, KT, Kl⟩ := id hC
  by_cases c1 : isN (nI 1) (nI 60) x1 = true
  · obtain ⟨n, hn1, hn, rfl⟩ := isN_t (by omega) (by omega) c1
    obtain ⟨Wn, Kn⟩ := go_i (L := L) (dr := true) W n
    refine rqA (u := (v.after L true n).1) hC hR (r := (v.after L true n).2) Wn Kn.2.2.1 (fun nx K hn2 hK h1 h2 => ?_) (fun ρ K hK M1 M2 hb h6 => ?_)
    · obtain ⟨τ, t1, t2, t3, t4⟩ := e_rem hC hn2 hK h1 h2
      have key : ∃ σ2, X11_hours_22 FU (nI n) (nI 0) (nI 0) τ = some (.inl (v.after L true n).2, σ2) ∧ SC σ2 9 (v.after L true n).1 (1000 * j + 900) ∧ ∀ c, c < 9 ∨ 30 ≤ c → c ≠ 82 → c ≠ 84 → σ2 c = τ c := by
        refine loop_P (L := fun f (a : Int32 × Mem) i => X11_hours_22 f (nI n) a.1 i a.2) (P := fun i a => a.1 = (v.after L true i).2 ∧ SC a.2 9 (v.after L true i).1 (1000 * j + 15 * i) ∧ LC a.2 72 L ∧ ∀ c, c < 9 ∨ 30 ≤ c → c ≠ 82 → c ≠ 84 → a.2 c = τ c) (Q := fun r => ∃ σ2, r = some (.inl (v.after L true n).2, σ2) ∧ SC σ2 9 (v.after L true n).1 (1000 * j + 900) ∧ ∀ c, c < 9 ∨ 30 ≤ c → c ≠ 82 → c ≠ 84 → σ2 c = τ c) (n := n) (a := (nI 0, τ)) (fun f a hP => ?_) (fun f a i hi hP => Or.inr ?_) (Nat.zero_le _) (FUb (by omega)) ⟨rfl, t3, t4, fun _ _ _ _ => rfl⟩
        · obtain ⟨p1, p2, p3, p4⟩ := hP
          refine ⟨a.2, ?_, p2.mono (by omega), p4⟩
          show X11_hours_22 (f + 1) (nI n) a.1 (nI n) a.2 = _
          rw [X11_hours_22, if_pos (nI_le (Nat.le_refl _) (by omega)), p1]
        · obtain ⟨p1, p2, p3, p4⟩ := hP
          obtain ⟨c, ρ⟩ := a
          simp only at p1 p2 p3 p4 ⊢
          obtain ⟨Wi, Ki⟩ := go_i (L := L) (dr := true) W i
          obtain ⟨ρ2, r1, r2, r3, r4⟩ := e_tick kd9 (C := 72) rfl (Or.inl (by decide)) Wi p2 p3 (by omega) (dr := true)
          rw [X11_hours_22, if_neg (nI_ge hi (by omega)), show (1 : Int32) = b2i true from rfl, r1, bd2_s, p1, show b2i true = (1 : Int32) from rfl, nI_1]
          exact ⟨(_, ρ2), rfl, rfl, r2, r3, fun c h1 h2 h3 => (r4 c (by omega) h2 h3).trans (p4 c h1 h2 h3)⟩
      obtain ⟨σ2, q1, q2, q3⟩ := key
      unfold L_hours X11_hours
      rw [e_needNumber, if_pos (show isN 1 60 _ = true from c1), bdx_l, t1, bd_s, show (0 : Int32) = nI 0 from rfl, q1]
      exact ⟨σ2, rfl, t2.then hn2 fun c c1 c2 c3 c4 => q3 c c1 c2 c3, q2.mono (by omega)⟩
    · obtain ⟨τ, t1, t2, t3, t4⟩ := m_rem hb hK h6
      obtain ⟨τ2, s1, s2, s3⟩ := m_goes W (by rw [t3]; exact M2) KT t2.2.2.1 (dr := true) hn
      rw [show b2i true = (1 : Int32) from rfl] at s1
      unfold X12_hours X12_hours_16
      rw [m_isN, show isN 1 60 (nI n) = true from c1, bd_s, if_neg (show ¬ b2i true = 0 by decide), pu_s, bd_s, st_at, if_pos (by decide), show st ρ 399 0 0 = st ρ 399 0 (nI 0) from rfl, t1, bd_s, s1, bd2_s]
      exact ⟨τ2, rfl, t2.then s3, s2, by rw [s3.2.1 0 (by omega), t4, st_at]⟩
  · rw [Bool.not_eq_true] at c1
    refine rqT hC hR (k := nI 1) (r := nI 0) n0 ?_ ?_
    · unfold L_hours X11_hours
      rw [e_needNumber, show isN 1 60 x1 = false from c1, if_neg (by decide), bdx_r, bdx2_r]
      rfl
    · unfold X12_hours X12_hours_16
      rw [m_isN, show isN 1 60 x1 = false from c1, bd_s, if_pos (show b2i false = 0 from rfl), pu_s, bd_s, st_at, if_neg (by decide)]
      rfl
theorem r_13 (hj : j < 512) (hC : Core (1000 * j) σ v L) (hR : Rest (1000 * j) σ v.txt) : ∃ σ3, lw_13 x1 x2 x3 x4 x5 σ = some (true, σ3) ∧ Inv (j + 1) σ3 := by
  obtain ⟨W, R, M, KL, KT, Kl⟩ := id hC
  have h9 := W.n9
  have k6 := W.k6
  by_cases c1 : isP v.k x1 = true
  · obtain ⟨w, w1, rfl⟩ := isP_t (by omega) c1
    have hpl := W.pl w w1
    have htp := W.tp w w1
    have hoi := W.oil (v.pl w) hpl
    by_cases c2 : 0 < v.tp w ∧ v.burn (v.pl w) = false ∧ 0 < v.oil (v.pl w) ∧ v.own (v.pl w) ≠ some w
    · obtain ⟨d1, d2, d3, d4⟩ := c2
      have W2 := W.kindle w1 hpl d3 d4
      have W3 : WF ((v.kindle w (v.pl w)).write 1 (v.pl w) (some w)) := W2.write (by decide) (by omega) (fun x hx => by cases hx; omega)
      have htx : ((v.kindle w (v.pl w)).write 1 (v.pl w) (some w)).txt = v.txt := by unfold View.write View.kindle; simp only [VR]
      have htp2 : ((v.kindle w (v.pl w)).write 1 (v.pl w) (some w)).tp w = v.tp w - 1 := by unfold View.write View.kindle; simp only [VR, if_true]
      have hkk : ((v.kindle w (v.pl w)).write 1 (v.pl w) (some w)).k = v.k := by unfold View.write View.kindle; simp only [VR]
      have hms : X7_mayStrike σ 9 (nI w) (nI (v.pl w)) = some (b2i true) := by
        rw [e_mayStrike kd9 W R w1 hpl]
        simp [d1, d2, d3, d4]
      refine rqA (u := (v.kindle w (v.pl w)).write 1 (v.pl w) (some w)) hC hR (r := nI (v.tp w - 1)) W3 htx (fun nx K hn hK h1 h2 => ?_) (fun ρ K hK M1 M2 hb h6 => ?_)
      · obtain ⟨τ, t1, t2, t3, t4⟩ := e_rem hC hn hK h1 h2
        obtain ⟨τ2, s1, s2, s3⟩ := e_light kd9 W t3 (by omega) (kd := 1) w1 hpl d1 d3 d4 W2
        have gt : X6_get τ2 20 (nI w) = some (nI (v.tp w - 1)) := by
          have := g_tp kd9 W3 s2 (w := w) (by rw [hkk]; exact w1)
          rw [htp2] at this
          exact this
        unfold L_strike X11_strike
        rw [e_needWalker R, if_pos c1, bdx_l, show X6_get σ 18 (nI w) = _ from g_pl kd9 W R w1, bd_s, hms, bd_s, if_neg (show ¬ b2i true = 0 by decide), t1, bd_s, show (1 : Int32) = nI 1 from rfl, s1, bd_s, gt, bd_s]
        exact ⟨τ2, rfl, t2.then hn fun c c1 c2 c3 c4 => s3 c (by omega), s2.mono (by omega)⟩
      · obtain ⟨τ, t1, t2, t3, t4⟩ := m_rem hb hK h6
        obtain ⟨τ2, s1, s2, s3⟩ := m_kindles W (show SM (τ 400) v by rw [t3]; exact M2) (kd := 1) w1 hpl d1 d3 d4 W2
        have gt : X12_ofWalker τ2 (nI w) (nI 1) = some (nI (v.tp w - 1)) := by
          have := o_tp W3 s2 (show w < _ by rw [hkk]; exact w1)
          rw [htp2] at this
          exact this
        have B1 : BO ρ := by
          have := hb
          unfold BO at this ⊢
          rw [st_at' (by decide), st_at' (by decide)] at this
          exact this
        have M3 : SM ((st (st ρ 399 0 (nI 0)) 399 0 (nI 0)) 400) v := sm_th M2
        have e0 : st (st ρ 399 0 (nI 0)) 399 0 (nI 0) = st ρ 399 0 (nI 0) := st_st
        unfold X12_strike X12_strike_14
        rw [m_isWalker W M1, c1, bd_s, if_neg (show ¬ b2i true = 0 by decide), pu_s, bd_s, st_at, if_pos (by decide), show st ρ 399 0 0 = st ρ 399 0 (nI 0) from rfl, show X12_ofWalker (st ρ 399 0 (nI 0)) (nI w) 0 = _ from o_pl W M2 w1, bd_s, show X12_ofWalker (st ρ 399 0 (nI 0)) (nI w) 1 = _ from o_tp W M2 w1, bd_s, if_neg (show ¬ nI (v.tp w) = 0 from fun z => by have := nI_inj (b := 0) (by omega) (by omega) z; omega), show X12_of (st ρ 399 0 (nI 0)) (nI (v.pl w)) 1 = _ from o_burn W M2 hpl, bd_s, d2, if_neg (show ¬ b2i false = 1 by decide), show X12_of (st ρ 399 0 (nI 0)) (nI (v.pl w)) 2 = _ from o_own W M2 hpl, bd_s, if_neg (show ¬ oI (v.own (v.pl w)) = nI w from fun z => d4 ((own_is W hpl (by omega)).mp z)), show X12_of (st ρ 399 0 (nI 0)) (nI (v.pl w)) 0 = _ from o_oil W M2 hpl, bd_s, if_neg (show ¬ nI (v.oil (v.pl w)) = 0 from fun z => by have := nI_inj (b := 0) (by omega) (by omega) z; omega)]
        unfold X12_strike_77
        rw [pu_s, bd_s, st_at, if_pos (by decide), show st (st ρ 399 0 (nI 0)) 399 0 0 = st ρ 399 0 (nI 0) from e0, t1, bd_s, show (1 : Int32) = nI 1 from rfl, s1, bd_s, gt, bd_s]
        exact ⟨τ2, rfl, t2.then4 s3, s2, by rw [s3 399 (by decide), t4, st_at]⟩
    · have hms : X7_mayStrike σ 9 (nI w) (nI (v.pl w)) = some (b2i false) := by
        rw [e_mayStrike kd9 W R w1 hpl]
        congr 2
        rw [← Bool.not_eq_true]
        intro z
        simp only [Bool.and_eq_true, decide_eq_true_eq, Bool.not_eq_true'] at z
        exact c2 ⟨z.1, z.2.1, z.2.2.1, z.2.2.2⟩
      refine rqT hC hR (k := nI 2) (r := nI 0) n2 ?_ ?_
      · unfold L_strike X11_strike
        rw [e_needWalker R, if_pos c1, bdx_l, show X6_get σ 18 (nI w) = _ from g_pl kd9 W R w1, bd_s, hms, bd_s, if_pos (show b2i false = 0 from rfl), bdx2_r]
        rfl
      · have M2 : SM ((st σ 399 0 (nI 0)) 400) v := sm_th M
        have e0 : st (st σ 399 0 (nI 0)) 399 0 2 = st σ 399 0 2 := st_st
        have no : X12_strike_72 (nI w) (nI (v.pl w)) (st σ 399 0 (nI 0)) = some (nI 0, st σ 399 0 2) := by
          unfold X12_strike_72 X12_strike_77
          rw [pu_s, bd_s, st_at, if_neg (by decide), e0]; rfl
        unfold X12_strike X12_strike_14
        rw [m_isWalker W M, c1, bd_s, if_neg (show ¬ b2i true = 0 by decide), pu_s, bd_s, st_at, if_pos (by decide), show st σ 399 0 0 = st σ 399 0 (nI 0) from rfl, show X12_ofWalker (st σ 399 0 (nI 0)) (nI w) 0 = _ from o_pl W M2 w1, bd_s, show X12_ofWalker (st σ 399 0 (nI 0)) (nI w) 1 = _ from o_tp W M2 w1, bd_s, no]
        by_cases d1 : v.tp w = 0
        · rw [if_pos (show nI (v.tp w) = 0 by rw [d1]; rfl)]; rfl
        · rw [if_neg (show ¬ nI (v.tp w) = 0 from fun z => d1 (nI_inj (b := 0) (by omega) (by omega) z)), show X12_of (st σ 399 0 (nI 0)) (nI (v.pl w)) 1 = _ from o_burn W M2 hpl, bd_s]
          cases d2 : v.burn (v.pl w) with
          | true => rw [if_pos (show b2i true = 1 from rfl)]; rfl
          | false =>
            rw [if_neg (show ¬ b2i false = 1 by decide), show X12_of (st σ 399 0 (nI 0)) (nI (v.pl w)) 2 = _ from o_own W M2 hpl, bd_s]
            by_cases d4 : v.own (v.pl w) = some w
            · rw [if_pos (show oI (v.own (v.pl w)) = nI w by rw [d4]; rfl)]; rfl
            · rw [if_neg (show ¬ oI (v.own (v.pl w)) = nI w from fun z => d4 ((own_is W hpl (by omega)).mp z)), show X12_of (st σ 399 0 (nI 0)) (nI (v.pl w)) 0 = _ from o_oil W M2 hpl, bd_s]
              by_cases d3 : v.oil (v.pl w) = 0
              · rw [if_pos (show nI (v.oil (v.pl w)) = 0 by rw [d3]; rfl)]; rfl
              · exact absurd ⟨by omega, d2, by omega, d4⟩ c2
  · rw [Bool.not_eq_true] at c1
    refine rqT hC hR (k := nI 1) (r := nI 0) n0 ?_ ?_
    · unfold L_strike X11_strike
      rw [e_needWalker R, c1, if_neg (by decide), bdx_r, bdx2_r]
      rfl
    · unfold X12_strike X12_strike_14
      rw [m_isWalker W M, c1, bd_s, if_pos (show b2i false = 0 from rfl), pu_s, bd_s, st_at, if_neg (by decide)]
      rfl
end ROADS6

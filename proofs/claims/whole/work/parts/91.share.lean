/-! oil shared out, one by one -/
noncomputable def View.lst (v : View) : Nat → Nat := iterN (fun a i => if v.oil a ≤ v.oil i then a else i) 0
noncomputable def View.giv (v : View) : View := v.w_oil (fun q => if q = v.lst v.n then min 99 (v.oil (v.lst v.n) + 1) else v.oil q)
noncomputable def View.givN (v : View) : Nat → View := iterN (fun u _ => u.giv) v
section SHARE
variable {σ σ1 σ2 : Mem} {v u : View} {L : Lw} {j e : Nat} {x1 x2 x3 x4 x5 : Int32}
theorem lst_lt {i : Nat} (hi : 0 < i) : v.lst i < i := by
  induction i with
  | zero => omega
  | succ i ih =>
    unfold View.lst at *
    rw [iterN]
    split
    · by_cases h : 0 < i
      · have := ih h; omega
      · rw [show i = 0 by omega]; exact Nat.zero_lt_one
    · omega
theorem lst_s {i : Nat} : v.lst (i + 1) = if v.oil (v.lst i) ≤ v.oil i then v.lst i else i := rfl
theorem giv_n : (v.giv).n = v.n := by unfold View.giv; simp only [VR]
theorem giv_txt : (v.giv).txt = v.txt := by unfold View.giv; simp only [VR]
theorem WF.giv (W : WF v) (hn : 0 < v.n) : WF v.giv := by
  have hl := lst_lt (v := v) hn
  have ho := W.oil _ hl
  unfold View.giv
  exact (by
    unfold WF
    try simp only [VR]
    exact ⟨W.n9, W.k6, W.texts, W.hour, W.night, W.fog, 
      fun q hq => by
      split
      · omega
      · exact W.oil q hq, W.dark, W.own, W.one, 
      fun q hq h => by
      have := W.burn q hq h
      split
      · omega
      · exact this, W.sym, W.irr, W.pl, W.tp, W.lt, W.hd, W.like, W.self, W.log, W.rows⟩)
theorem givN_i (W : WF v) (hn : 0 < v.n) : ∀ m, WF (v.givN m) ∧ (v.givN m).n = v.n ∧ (v.givN m).txt = v.txt := by
  intro m
  induction m with
  | zero => exact ⟨W, rfl, rfl⟩
  | succ m ih =>
    obtain ⟨a, b, c⟩ := ih
    exact ⟨a.giv (by rw [b]; exact hn), giv_n.trans b, giv_txt.trans c⟩
theorem giv_99 (h : v.oil (v.lst v.n) = 99) : v.giv = v := by
  unfold View.giv
  apply View.id_oil
  funext q
  split
  · rename_i e; rw [e, h]; rfl
  · rfl
theorem givN_99 (h : v.oil (v.lst v.n) = 99) : ∀ m, v.givN m = v := by
  intro m
  induction m with
  | zero => rfl
  | succ m ih => show (v.givN m).giv = v; rw [ih, giv_99 h]
theorem givN_add (v : View) (a : Nat) : ∀ b, (v.givN a).givN b = v.givN (a + b) := by
  intro b
  induction b with
  | zero => rfl
  | succ b ih => show ((v.givN a).givN b).giv = (v.givN (a + b)).giv; rw [ih]
theorem e_lst (hB : kd 30 = 2) (W : WF v) (R : SC σ 30 v e) (hn : 0 < v.n) (rc2 : Nat → Int32 → Int32 → Mem → Option Mem) : X7_giveOneByOne_12 rc2 FU 30 x1 x2 (-1) 0 σ = if v.oil (v.lst v.n) < 99 then bd (X6_add 31 (nI (v.lst v.n)) 1 σ) fun τ => rc2 30 x1 (x2 + 1) τ else some σ := by
  have h9 := W.n9
  rw [show (0 : Int32) = nI 0 from rfl]
  refine loop_P (L := fun f (a : Int32) i => X7_giveOneByOne_12 rc2 f 30 x1 x2 a i σ) (P := fun i a => a = if i = 0 then -1 else nI (v.lst i)) (Q := fun r => r = if v.oil (v.lst v.n) < 99 then bd (X6_add 31 (nI (v.lst v.n)) 1 σ) fun τ => rc2 30 x1 (x2 + 1) τ else some σ) (n := v.n) (a := -1) (fun f a hP => ?_) (fun f a i hi hP => Or.inr ?_) (Nat.zero_le _) (FUb (by omega)) rfl
  · have hl := lst_lt (v := v) hn
    have ho := W.oil _ hl
    rw [if_neg (by omega)] at hP
    rw [X7_giveOneByOne_12, R.n, if_pos (nI_le (Nat.le_refl _) (by omega)), hP, if_neg (show ¬ nI (v.lst v.n) = -1 from nI_m1 (by omega)), show X6_get σ (30 + 1) (nI (v.lst v.n)) = _ from g_oil hB W R hl, bd_s]
    by_cases c : v.oil (v.lst v.n) < 99
    · rw [if_pos (show nI (v.oil (v.lst v.n)) < 99 from nI_lt (b := 99) c (by omega)), if_pos c]
    · rw [if_neg (show ¬ nI (v.oil (v.lst v.n)) < 99 from nI_nlt (b := 99) (by omega) (by omega)), if_neg c]
  · rw [X7_giveOneByOne_12, R.n, if_neg (nI_ge hi (by omega)), hP]
    unfold X7_giveOneByOne_46
    rw [nI_1]
    by_cases c0 : i = 0
    · subst c0
      rw [if_pos rfl, if_pos rfl]
      refine ⟨nI 0, rfl, ?_⟩
      rw [if_neg (by decide)]
      congr 1
      rw [lst_s]
      split <;> rfl
    · have hl := lst_lt (v := v) (i := i) (by omega)
      have o1 := W.oil i hi
      have o2 := W.oil (v.lst i) (by omega)
      rw [if_neg c0, if_neg (show ¬ nI (v.lst i) = -1 from nI_m1 (by omega)), show X6_get σ (30 + 1) (nI i) = _ from g_oil hB W R hi, bd_s, show X6_get σ (30 + 1) (nI (v.lst i)) = _ from g_oil hB W R (by omega), bd_s]
      by_cases c : v.oil (v.lst i) ≤ v.oil i
      · rw [if_pos (nI_le c (by omega))]
        exact ⟨nI (v.lst i), rfl, by rw [if_neg (by omega), lst_s, if_pos c]⟩
      · rw [if_neg (nI_ge (by omega) (by omega))]
        exact ⟨nI i, rfl, by rw [if_neg (by omega), lst_s, if_neg c]⟩
theorem e_give (hB : kd 30 = 2) {m : Nat} (hm : m ≤ 999) : ∀ (d i fuel : Nat) (τ : Mem) (u : View), i + d = m → d < fuel → WF u → 0 < u.n → SC τ 30 u e → (∀ c, c < 30 ∨ 51 ≤ c → τ c = σ c) → ∃ σ2, X7_giveOneByOne_2 fuel 30 (nI m) (nI i) τ = some σ2 ∧ SC σ2 30 (u.givN d) e ∧ ∀ c, c < 30 ∨ 51 ≤ c → σ2 c = σ c := by
  intro d
  induction d with
  | zero =>
    intro i fuel τ u hi hf W hn R hc
    obtain ⟨fuel, rfl⟩ : ∃ z, fuel = z + 1 := ⟨fuel - 1, by omega⟩
    rw [X7_giveOneByOne_2, if_pos (nI_le (by omega) (by omega))]
    exact ⟨τ, rfl, R, hc⟩
  | succ d ih =>
    intro i fuel τ u hi hf W hn R hc
    obtain ⟨fuel, rfl⟩ : ∃ z, fuel = z + 1 := ⟨fuel - 1, by omega⟩
    have hl := lst_lt (v := u) hn
    have h9 := W.n9
    have ho := W.oil _ hl
    have l32 : ln (31 + 1) = 9 := by decide +kernel
    rw [X7_giveOneByOne_2, if_neg (nI_ge (by omega) (by omega)), e_lst hB W R hn]
    by_cases c : u.oil (u.lst u.n) < 99
    · rw [if_pos c]
      unfold X6_add
      rw [if_neg (nI_pos (by omega)), if_neg (nI_ge (by rw [l32]; omega) (by rw [l32]; omega)), ag_nI (by rw [l32]; omega) (by omega), bd_s, au_nI (by rw [l32]; omega) (by omega), bd_s, bd_s, show τ (31 + 1) (u.lst u.n) = nI (u.oil (u.lst u.n)) from R.oil _ hl, nI_1, nI_1]
      have R2 : SC (st τ (31 + 1) (u.lst u.n) (nI (u.oil (u.lst u.n) + 1))) 30 u.giv e := by
        have := R.s_oil (u.lst u.n) (min 99 (u.oil (u.lst u.n) + 1))
        rw [Nat.min_eq_right (by omega)] at this
        unfold View.giv
        rw [Nat.min_eq_right (by omega)]
        exact this
      obtain ⟨σ2, q1, q2, q3⟩ := ih (i + 1) fuel _ u.giv (by omega) (by omega) (W.giv hn) (by rw [giv_n]; exact hn) R2 (fun c hc' => by rw [st_n (by omega)]; exact hc c hc')
      refine ⟨σ2, q1, ?_, q3⟩
      have := givN_add u 1 d
      rw [Nat.add_comm] at this
      rw [← this]
      exact q2
    · rw [if_neg c]
      refine ⟨τ, rfl, ?_, hc⟩
      rw [givN_99 (by omega)]
      exact R
theorem m_give1 (W : WF v) (M : SM (σ 400) v) (hn : 0 < v.n) (rc47 : Int32 → Int32 → Int32 → Mem → Option (Int32 × Mem)) : ∃ σ2, X12_share_58 rc47 FU x1 x2 x3 0 1 σ = rc47 x1 x2 (x3 + 1) σ2 ∧ SM (σ2 400) v.giv ∧ ∀ c, c ≠ 400 → σ2 c = σ c := by
  have h9 := W.n9
  rw [show (1 : Int32) = nI 1 from rfl]
  refine loop_P (L := fun f (a : Int32) i => X12_share_58 rc47 f x1 x2 x3 a i σ) (P := fun i a => a = nI (v.lst i)) (Q := fun r => ∃ σ2, r = rc47 x1 x2 (x3 + nI 1) σ2 ∧ SM (σ2 400) v.giv ∧ ∀ c, c ≠ 400 → σ2 c = σ c) (i0 := 1) (n := v.n) (a := 0) (fun f a hP => ?_) (fun f a i hi hP => Or.inr ?_) (by omega) (FUb (by omega)) ?_
  · have hl := lst_lt (v := v) hn
    have ho := W.oil _ hl
    rw [X12_share_58, show (3 : Int32) = nI 3 from rfl, a_n M, bd_s, if_pos (nI_le (Nat.le_refl _) (by omega)), hP, show X12_of σ (nI (v.lst v.n)) 0 = _ from o_oil W M hl, bd_s, nI_1, show (99 : Int32) = nI 99 from rfl, m_lesser (by omega) (by omega), bd_s, show X12_lays (nI (v.lst v.n)) (0 : Int32) (nI (min 99 (v.oil (v.lst v.n) + 1))) σ = some (st σ 400 (11 + 4 * v.lst v.n) (nI (min 99 (v.oil (v.lst v.n) + 1)))) from m_lays W hl (k := 0) (by omega), bd_s]
    refine ⟨_, rfl, ?_, fun c hc => st_n hc⟩
    rw [st_s]
    exact M.s_oil h9 W.k6 W.log hl _
  · have hl := lst_lt (v := v) (i := i) 
    by_cases c0 : i = 0
    · subst c0
      have o1 := W.oil 0 hi
      rw [X12_share_58, show (3 : Int32) = nI 3 from rfl, a_n M, bd_s, if_neg (nI_ge hi (by omega)), hP, show v.lst 0 = 0 from rfl, show X12_of σ (nI 0) 0 = _ from o_oil W M hi, bd_s, bd_s, if_pos (nI_le (Nat.le_refl _) (by omega)), nI_1]
      exact ⟨nI 0, rfl, by rw [lst_s]; split <;> rfl⟩
    · have hl := hl (by omega)
      have o1 := W.oil i hi
      have o2 := W.oil (v.lst i) (by omega)
      rw [X12_share_58, show (3 : Int32) = nI 3 from rfl, a_n M, bd_s, if_neg (nI_ge hi (by omega)), hP, show X12_of σ (nI i) 0 = _ from o_oil W M hi, bd_s, show X12_of σ (nI (v.lst i)) 0 = _ from o_oil W M (by omega), bd_s, nI_1]
      by_cases c : v.oil (v.lst i) ≤ v.oil i
      · rw [if_pos (nI_le c (by omega))]
        exact ⟨nI (v.lst i), rfl, by rw [lst_s, if_pos c]⟩
      · rw [if_neg (nI_ge (by omega) (by omega))]
        exact ⟨nI i, rfl, by rw [lst_s, if_neg c]⟩
  · show (0 : Int32) = nI (v.lst (0 + 1))
    rw [lst_s]
    split <;> rfl
theorem r_35 (hC : Core (1000 * j) σ v L) (hR : Rest (1000 * j) σ v.txt) : ∃ σ3, lw_35 x1 x2 x3 x4 x5 σ = some (true, σ3) ∧ Inv (j + 1) σ3 := by
  obtain ⟨W, R, M, K, KT, Kl⟩ := id hC
  have h9 := W.n9
  have kd30 : kd 30 = 2 := by decide +kernel
  by_cases c1 : isP v.n x1 = true
  · obtain ⟨p, p1, rfl⟩ := isP_t (by omega) c1
    by_cases c2 : isN (nI 0) (nI 999) x2 = true
    · obtain ⟨m, -, hm, rfl⟩ := isN_t (by omega) (by omega) c2
      obtain ⟨Wm, nm, tm⟩ := givN_i W (show 0 < v.n by omega) m
      obtain ⟨τ, t1, t2, t3⟩ := e_copy kd30 kd9 (Or.inr (by decide)) R W
      obtain ⟨τ2, s1, s2, s3⟩ := e_give kd30 hm (σ := σ) m 0 FU τ v (by omega) (FUb (by omega)) W (by omega) t2 (fun c hc => t3 c (by omega))
      have fC : FrC σ τ2 := by
        refine ⟨fun c hc => s3 c (by omega), fun i hi => ?_, ?_⟩
        · rw [s3 391 (by omega)]; exact hR.2.2.2.2.1 i hi
        · rw [s3 398 (by omega)]; exact hR.2.2.2.2.2
      refine rqM (σ1 := τ2) hC hR (r := nI ((v.givN m).oil p)) fC ?_ (fun ρ hρ M1 M2 hb => ?_)
      · unfold L_share X11_share X7_giveOneByOne
        rw [e_needPane R, if_pos c1, bdx_l, e_needNumber, if_pos (show isN 0 999 _ = true from c2), bdx_l, t1, bd_s, show (0 : Int32) = nI 0 from rfl, s1, bd_s, show X6_get τ2 31 (nI p) = _ from g_oil kd30 Wm s2 (by rw [nm]; exact p1), bd_s]
        rfl
      · obtain ⟨a1, a2⟩ := aside_M hb
        generalize hσ0 : st ρ 399 0 (nI 0) = σ0 at a1 a2 M2 hb
        generalize hτ' : sr σ0 402 (cpL (σ0 400) (σ0 402) 488) = τ' at a1 a2
        have key : ∃ (ρ2 : Mem), (X12_share_47 FU (nI p) (nI m) (nI 0) τ' = bd (X12_of ρ2 (nI p) 0) fun r126 => bd (X12_comesBack ρ2) fun σ131 => some (r126, σ131)) ∧ SM (ρ2 400) (v.givN m) ∧ ∀ c, c ≠ 400 → ρ2 c = τ' c := by
          refine loop_P (L := fun f a i => X12_share_47 f (nI p) (nI m) i a) (P := fun i a => SM (a 400) (v.givN i) ∧ ∀ c, c ≠ 400 → a c = τ' c) (Q := fun r => ∃ (ρ2 : Mem), (r = bd (X12_of ρ2 (nI p) 0) fun r126 => bd (X12_comesBack ρ2) fun σ131 => some (r126, σ131)) ∧ SM (ρ2 400) (v.givN m) ∧ ∀ c, c ≠ 400 → ρ2 c = τ' c) (n := m) (a := τ') (fun f a hP => ?_) (fun f a i hi hP => Or.inr ?_) (Nat.zero_le _) (FUb (by omega)) ⟨by rw [a2]; exact M2, fun _ _ => rfl⟩
          · refine ⟨a, ?_, hP⟩
            rw [X12_share_47, if_pos (nI_le (Nat.le_refl _) (by omega))]
          · obtain ⟨p1, p2⟩ := hP
            obtain ⟨Wi, ni, ti⟩ := givN_i W (show 0 < v.n by omega) i
            obtain ⟨a2, q1, q2, q3⟩ := m_give1 (x1 := nI p) (x2 := nI m) (x3 := nI i) Wi p1 (by rw [ni]; omega) (X12_share_47 f)
            rw [X12_share_47, if_neg (nI_ge hi (by omega)), q1, nI_1]
            exact ⟨a2, rfl, q2, fun c hc => by rw [q3 c hc]; exact p2 c hc⟩
        obtain ⟨ρ2, q1, q2, q3⟩ := key
        have h402 : ∀ i, i < 488 → ρ2 402 i = σ0 400 i := fun i hi => by rw [q3 402 (by decide), ← hτ']; exact aside_402 hi
        have hback := m_back M2 h402 q2 tm
        unfold X12_share X12_share_29
        rw [m_isPane W M1, c1, bd_s, if_neg (show ¬ b2i true = 0 by decide), m_isN, show isN 0 999 (nI m) = true from c2, bd_s, if_neg (show ¬ b2i true = 0 by decide), pu_s, bd_s, st_at, if_pos (by decide), show st ρ 399 0 0 = σ0 from hσ0, m_putsAside, hτ', bd_s, show (0 : Int32) = nI 0 from rfl, q1, show X12_of ρ2 (nI p) 0 = _ from o_oil Wm q2 (by rw [nm]; exact p1), bd_s, hback, bd_s]
        refine ⟨_, rfl, (a1.trans (MF.of a1.2.2 q3).frM).sr4, by rw [sr_s], ?_⟩
        rw [sr_n (by decide), q3 399 (by decide), ← hτ', sr_n (by decide)]
    · rw [Bool.not_eq_true] at c2
      refine rqT hC hR (k := nI 2) (r := nI 0) n2 ?_ ?_
      · unfold L_share X11_share
        rw [e_needPane R, if_pos c1, bdx_l, e_needNumber, show isN 0 999 x2 = false from c2, if_neg (by decide), bdx_r, bdx2_r]
        rfl
      · unfold X12_share X12_share_29
        rw [m_isPane W M, c1, bd_s, if_neg (show ¬ b2i true = 0 by decide), m_isN, show isN 0 999 x2 = false from c2, bd_s, if_pos (show b2i false = 0 from rfl), pu_s, bd_s, st_at, if_neg (by decide)]
        rfl
  · rw [Bool.not_eq_true] at c1
    refine rqT hC hR (k := nI 1) (r := nI 0) n0 ?_ ?_
    · unfold L_share X11_share
      rw [e_needPane R, c1, if_neg (by decide), bdx_r, bdx2_r]
      rfl
    · unfold X12_share X12_share_29
      rw [m_isPane W M, c1, bd_s, if_pos (show b2i false = 0 from rfl), pu_s, bd_s, st_at, if_neg (by decide)]
      rfl
end SHARE

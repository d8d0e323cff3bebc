/-! hours ahead, both sides -/
noncomputable def View.go (L : Lw) (dr : Bool) (s : View × Int32) (_ : Nat) : View × Int32 := ((s.1.tick L dr).1, s.2 + nI (s.1.tick L dr).2)
noncomputable def View.after (v : View) (L : Lw) (dr : Bool) (n : Nat) : View × Int32 := iterN (View.go L dr) (v, nI 0) n
/-- the first hour by which something is so -/
noncomputable def View.fst (c : Nat → View → Option Nat) (L : Lw) : Nat → Nat → View → Option Nat
  | 0, _, _ => none
  | m + 1, n, u => match c n u with
    | some r => some r
    | none => View.fst c L m (n + 1) (u.tick L false).1
section AHEAD
variable {σ : Mem} {v : View} {e : Nat} {L : Lw}
theorem kd366 : kd 366 = 2 := by decide +kernel
theorem kd9' : kd 9 = 2 := by decide +kernel
theorem go_i (W : WF v) {dr : Bool} : ∀ i, WF (v.after L dr i).1 ∧ Kp v (v.after L dr i).1 := by
  intro i
  induction i with
  | zero => exact ⟨W, Kp.refl⟩
  | succ i ih =>
    obtain ⟨h1, h2⟩ := ih
    obtain ⟨t1, t2, t3⟩ := h1.tick (L := L) (dr := dr)
    exact ⟨t1, h2.trans t2⟩
theorem e_afterL (W : WF v) (R : SC σ 366 v e) (K : LC σ 72 L) (he : e + 900 < 2 ^ 30) {dr : Bool} {n : Nat} (hn : n ≤ 60) : ∃ σ2, X0_after_20 FU 72 (nI n) (b2i dr) (nI 0) σ = some σ2 ∧ SC σ2 366 (v.after L dr n).1 (e + 900) ∧ LC σ2 72 L ∧ ∀ c, c < 366 ∨ 387 ≤ c → c ≠ 82 → c ≠ 84 → σ2 c = σ c := by
  refine loop_P (L := fun f τ i => X0_after_20 f 72 (nI n) (b2i dr) i τ) (P := fun i τ => SC τ 366 (v.after L dr i).1 (e + 15 * i) ∧ LC τ 72 L ∧ ∀ c, c < 366 ∨ 387 ≤ c → c ≠ 82 → c ≠ 84 → τ c = σ c) (Q := fun r => ∃ σ2, r = some σ2 ∧ SC σ2 366 (v.after L dr n).1 (e + 900) ∧ LC σ2 72 L ∧ ∀ c, c < 366 ∨ 387 ≤ c → c ≠ 82 → c ≠ 84 → σ2 c = σ c) (n := n) (fun f τ hP => ?_) (fun f τ i hi hP => Or.inr ?_) (Nat.zero_le _) (FUb (by omega)) ⟨R, K, fun _ _ _ _ => rfl⟩
  · obtain ⟨p1, p2, p3⟩ := hP
    refine ⟨τ, ?_, p1.mono (by omega), p2, p3⟩
    rw [X0_after_20, if_pos (nI_le (Nat.le_refl _) (by omega))]
  · obtain ⟨p1, p2, p3⟩ := hP
    obtain ⟨W1, K1⟩ := go_i (L := L) (dr := dr) W i
    obtain ⟨ρ, r1, r2, r3, r4⟩ := e_tick kd366 rfl (Or.inr (by decide)) W1 p1 p2 (by omega) (dr := dr)
    rw [X0_after_20, if_neg (nI_ge hi (by omega)), r1, bd2_s, nI_1]
    exact ⟨ρ, rfl, r2, r3, fun c h1 h2 h3 => by rw [r4 c (by omega) h2 h3]; exact p3 c h1 h2 h3⟩
theorem e_after (W : WF v) (R : SC σ 9 v e) (K : LC σ 72 L) (he : e + 900 < 2 ^ 30) {dr : Bool} {n : Nat} (hn : n ≤ 60) {sd : Int32} : ∃ σ2, X0_after 9 72 (nI n) (b2i dr) sd σ = some σ2 ∧ SC σ2 366 (((v.w_seed (sd)) : View).after L dr n).1 (e + 900) ∧ LC σ2 72 L ∧ ∀ c, c < 366 ∨ 387 ≤ c → c ≠ 82 → c ≠ 84 → σ2 c = σ c := by
  obtain ⟨τ, t1, t2, t3⟩ := e_copy kd366 kd9' (Or.inr (by decide)) R W
  have R1 := t2.s_seed sd
  have W1 : WF ((v.w_seed (sd)) : View) := (by
    unfold WF
    try simp only [VR]
    exact ⟨W.n9, W.k6, W.texts, W.hour, W.night, W.fog, W.oil, W.dark, W.own, W.one, W.burn, W.sym, W.irr, W.pl, W.tp, W.lt, W.hd, W.like, W.self, W.log, W.rows⟩)
  have K1 : LC (st τ 366 7 sd) 72 L := K.move fun c h1 h2 => by rw [st_n (by omega), t3 c (by omega)]
  obtain ⟨σ2, q1, q2, q3, q4⟩ := e_afterL W1 R1 K1 he (dr := dr) hn
  unfold X0_after
  rw [t1, bd_s, pu_s, bd_s, show (0 : Int32) = nI 0 from rfl, q1]
  exact ⟨σ2, rfl, q2, q3, fun c h1 h2 h3 => by rw [q4 c h1 h2 h3, st_n (by omega), t3 c (by omega)]⟩
theorem m_goes (W : WF v) (M : SM (σ 400) v) (K : LT v.txt L) (hb : BO σ) {dr : Bool} {n : Nat} (hn : n ≤ 60) : ∃ σ2, X12_goes (nI n) (b2i dr) σ = some ((v.after L dr n).2, σ2) ∧ SM (σ2 400) (v.after L dr n).1 ∧ MF σ σ2 := by
  unfold X12_goes
  rw [show (0 : Int32) = nI 0 from rfl]
  refine loop_P (L := fun f (a : Int32 × Mem) i => X12_goes_5 f (nI n) (b2i dr) a.1 i a.2) (P := fun i a => a.1 = (v.after L dr i).2 ∧ SM (a.2 400) (v.after L dr i).1 ∧ MF σ a.2) (Q := fun r => ∃ σ2, r = some ((v.after L dr n).2, σ2) ∧ SM (σ2 400) (v.after L dr n).1 ∧ MF σ σ2) (n := n) (a := (nI 0, σ)) (fun f a hP => ?_) (fun f a i hi hP => Or.inr ?_) (Nat.zero_le _) (FUb (by omega)) ⟨rfl, M, MF.refl hb⟩
  · obtain ⟨p1, p2, p3⟩ := hP
    refine ⟨a.2, ?_, p2, p3⟩
    show X12_goes_5 (f + 1) (nI n) (b2i dr) a.1 (nI n) a.2 = _
    rw [X12_goes_5, if_pos (nI_le (Nat.le_refl _) (by omega)), p1]
  · obtain ⟨p1, p2, p3⟩ := hP
    obtain ⟨W1, K1⟩ := go_i (L := L) (dr := dr) W i
    obtain ⟨ρ, r1, r2, r3⟩ := m_passes W1 p2 (by rw [K1.2.2.1]; exact K) p3.2.2 (dr := dr)
    obtain ⟨c, τ⟩ := a
    simp only at p1 p2 p3 r1 r3 ⊢
    rw [X12_goes_5, if_neg (nI_ge hi (by omega)), r1, bd2_s, nI_1, p1]
    exact ⟨(_, ρ), rfl, rfl, r2, p3.trans r3⟩
/-- what was put aside comes back -/
theorem m_back (M : SM (σ 400) v) {σ2 : Mem} {u : View} (h402 : ∀ i, i < 488 → σ2 402 i = σ 400 i) (M2 : SM (σ2 400) u) (hu : u.txt = v.txt) : X12_comesBack σ2 = some (sr σ2 400 (σ 400)) := by
  rw [m_comesBack]
  congr 2
  funext i
  unfold cpL
  split
  · rename_i h; exact h402 i h
  · rename_i h
    rw [M2.txt i (Or.inr (Or.inr (by omega))), M.txt i (Or.inr (Or.inr (by omega))), hu]
theorem aside_402 {i : Nat} (h : i < 488) : sr σ 402 (cpL (σ 400) (σ 402) 488) 402 i = σ 400 i := by rw [sr_s]; unfold cpL; rw [if_pos h]
theorem aside_M (hb : BO σ) : FrM σ (sr σ 402 (cpL (σ 400) (σ 402) 488)) ∧ sr σ 402 (cpL (σ 400) (σ 402) 488) 400 = σ 400 := by
  refine ⟨⟨fun c hc => sr_n (by omega), fun i _ => by rw [sr_n (by decide)], ?_⟩, sr_n (by decide)⟩
  unfold BO
  rw [sr_n (by decide)]
  exact hb
theorem FrM.sr4 {σ1 : Mem} (h : FrM σ σ1) {f : Nat → Int32} : FrM σ (sr σ1 400 f) := by
  refine ⟨fun c hc => by rw [sr_n (by omega)]; exact h.1 c hc, fun i hi => by rw [sr_n (by decide)]; exact h.2.1 i hi, ?_⟩
  unfold BO
  rw [sr_n (by decide)]
  exact h.2.2
theorem MF.frM {σ1 : Mem} (h : MF σ σ1) : FrM σ σ1 := h.toM (Or.inr trivial)
/-- the three questions of when -/
theorem e_fst {Lp : Nat → Int32 → Mem → Option (Int32 × Mem)} {c : Nat → View → Option Nat} {m : Nat} (hm : m = 61) (hc : ∀ n u r, c n u = some r → r < 2 ^ 31) (h0 : ∀ f τ, Lp (f + 1) (nI 61) τ = some (oI none, τ)) (h1 : ∀ f τ n u e, n < 61 → WF u → SC τ 366 u e → e + 15 < 2 ^ 30 → Kp v u → Lp (f + 1) (nI n) τ = match c n u with | some r => some (nI r, τ) | none => bd2 (X0_tick 366 72 0 τ) fun _ τ2 => Lp f (nI (n + 1)) τ2) (W : WF v) (R : SC σ 366 v e) (K : LC σ 72 L) (he : e + 1000 < 2 ^ 30) {fuel : Nat} (hf : 61 < fuel) : ∃ σ2, Lp fuel (nI 0) σ = some (oI (View.fst c L 61 0 v), σ2) ∧ ∀ b, b < 366 ∨ 387 ≤ b → b ≠ 82 → b ≠ 84 → σ2 b = σ b := by
  have key : ∀ (m n fuel : Nat) (u : View) (τ : Mem) (e2 : Nat), n + m = 61 → m < fuel → WF u → SC τ 366 u e2 → LC τ 72 L → e2 + 15 * m + 15 < 2 ^ 30 → Kp v u → (∀ b, b < 366 ∨ 387 ≤ b → b ≠ 82 → b ≠ 84 → τ b = σ b) → ∃ σ2, Lp fuel (nI n) τ = some (oI (View.fst c L m n u), σ2) ∧ ∀ b, b < 366 ∨ 387 ≤ b → b ≠ 82 → b ≠ 84 → σ2 b = σ b := by
    intro m
    induction m with
    | zero =>
      intro n fuel u τ e2 hn hf W1 R1 K1 he1 hk hfr
      obtain ⟨fuel, rfl⟩ : ∃ z, fuel = z + 1 := ⟨fuel - 1, by omega⟩
      rw [show n = 61 by omega, h0]
      exact ⟨τ, rfl, hfr⟩
    | succ m ih =>
      intro n fuel u τ e2 hn hf W1 R1 K1 he1 hk hfr
      obtain ⟨fuel, rfl⟩ : ∃ z, fuel = z + 1 := ⟨fuel - 1, by omega⟩
      rw [h1 fuel τ n u e2 (by omega) W1 R1 (by omega) hk]
      unfold View.fst
      cases hcn : c n u with
      | some r => exact ⟨τ, rfl, hfr⟩
      | none =>
        simp only
        obtain ⟨ρ, r1, r2, r3, r4⟩ := e_tick kd366 rfl (Or.inr (by decide)) W1 R1 K1 (by omega) (dr := false)
        rw [show (0 : Int32) = b2i false from rfl, r1, bd2_s]
        obtain ⟨t1, t2, t3⟩ := W1.tick (L := L) (dr := false)
        exact ih (n + 1) fuel _ ρ (e2 + 15) (by omega) (by omega) t1 r2 r3 (by omega) (hk.trans t2) (fun b b1 b2 b3 => by rw [r4 b (by omega) b2 b3]; exact hfr b b1 b2 b3)
  exact key 61 0 fuel v σ e rfl hf W R K (by omega) Kp.refl (fun _ _ _ _ => rfl)
/-- of the reference: the answer is found, then one hour more goes by -/
theorem m_fst {Lp : Nat → Int32 → Int32 → Mem → Option (Int32 × Mem)} {c : Nat → View → Option Nat} (hc : ∀ n u r, c n u = some r → r < 2 ^ 31) {out : Int32 → Mem → Option (Int32 × Mem)} (h0 : ∀ f x τ, Lp (f + 1) x (nI 61) τ = out x τ) (h2 : ∀ f r n τ, r < 2 ^ 31 → n < 61 → Lp (f + 1) (nI r) (nI n) τ = out (nI r) τ) (h1 : ∀ f τ n u, n < 61 → WF u → SM (τ 400) u → Kp v u → Lp (f + 1) (oI none) (nI n) τ = bd2 (X12_passes 0 τ) fun _ τ2 => Lp f (oI (c n u)) (nI (n + 1)) τ2) (W : WF v) (M : SM (σ 400) v) (K : LT v.txt L) (hb : BO σ) {fuel : Nat} (hf : 63 < fuel) : ∃ (σ2 : Mem) (u : View), Lp fuel (oI none) (nI 0) σ = out (oI (View.fst c L 61 0 v)) σ2 ∧ SM (σ2 400) u ∧ u.txt = v.txt ∧ MF σ σ2 := by
  have key : ∀ (m n fuel : Nat) (u : View) (τ : Mem), n + m = 61 → m + 1 < fuel → WF u → SM (τ 400) u → Kp v u → MF σ τ → ∃ (σ2 : Mem) (u2 : View), Lp fuel (oI none) (nI n) τ = out (oI (View.fst c L m n u)) σ2 ∧ SM (σ2 400) u2 ∧ u2.txt = v.txt ∧ MF σ σ2 := by
    intro m
    induction m with
    | zero =>
      intro n fuel u τ hn hf W1 M1 hk hfr
      obtain ⟨fuel, rfl⟩ : ∃ z, fuel = z + 1 := ⟨fuel - 1, by omega⟩
      rw [show n = 61 by omega, h0]
      exact ⟨τ, u, rfl, M1, hk.2.2.1, hfr⟩
    | succ m ih =>
      intro n fuel u τ hn hf W1 M1 hk hfr
      obtain ⟨fuel, rfl⟩ : ∃ z, fuel = z + 2 := ⟨fuel - 2, by omega⟩
      obtain ⟨ρ, r1, r2, r3⟩ := m_passes W1 M1 (L := L) (by rw [hk.2.2.1]; exact K) hfr.2.2 (dr := false)
      obtain ⟨t1, t2, t3⟩ := W1.tick (L := L) (dr := false)
      rw [h1 (fuel + 1) τ n u (by omega) W1 M1 hk, show (0 : Int32) = b2i false from rfl, r1, bd2_s]
      unfold View.fst
      cases hcn : c n u with
      | some r =>
        simp only
        refine ⟨ρ, _, ?_, r2, (hk.trans t2).2.2.1, hfr.trans r3⟩
        rw [oI_s]
        by_cases h : n + 1 < 61
        · exact h2 fuel r (n + 1) ρ (hc n u r hcn) h
        · rw [show n + 1 = 61 by omega]; exact h0 fuel (nI r) ρ
      | none =>
        simp only
        exact ih (n + 1) (fuel + 1) _ ρ (by omega) (by omega) t1 r2 (hk.trans t2) (hfr.trans r3)
  exact key 61 0 fuel v σ rfl (by omega) W M Kp.refl (MF.refl hb)
end AHEAD

/-! what is remembered -/
def keptB (K : Nat) : Nat := if K = 12 then 11 else K
def shB (K : Nat) : Nat := if K = 12 then 1 else 0
/-- the component remembered a street, and then changed only the street -/
def FrA (nx K e : Nat) (v : View) (σ σ1 : Mem) : Prop := (∀ c, c < 9 ∨ 30 ≤ c → c ≠ 82 → c ≠ 84 → c ≠ 111 → (c < 113 + 21 * nx ∨ 134 + 21 * nx ≤ c) → c ≠ 411 → σ1 c = σ c) ∧ σ1 111 1 = nI ((nx + 1) % 12) ∧ σ1 111 2 = nI (keptB K + 1) ∧ SC σ1 (113 + 21 * nx) v e
/-- the reference remembered its row, and then changed only the row -/
def FrB (K : Nat) (σ σ1 : Mem) : Prop := (∀ c, c ≠ 399 → c ≠ 400 → c ≠ 403 → c ≠ 405 → σ1 c = σ c) ∧ (∀ i, i = 3 ∨ i = 8 ∨ i = 12 → σ1 399 i = σ 399 i) ∧ BO σ1 ∧ σ1 399 6 = nI (keptB K + 1) ∧ (∀ i k, i < keptB K → k < 488 → σ1 403 (488 * i + k) = σ 403 (488 * (i + shB K) + k)) ∧ (∀ k, k < 488 → σ1 403 (488 * keptB K + k) = σ 400 k)
section ACTS
variable {σ σ1 σ2 : Mem} {v u : View} {L : Lw} {j e e2 nx K : Nat}
theorem FrA.then (h : FrA nx K e v σ σ1) (hn : nx < 12) (h2 : ∀ c, c < 9 ∨ 30 ≤ c → c ≠ 82 → c ≠ 84 → c ≠ 411 → σ2 c = σ1 c) : FrA nx K e v σ σ2 := by
  obtain ⟨a1, a2, a3, a4⟩ := h
  refine ⟨fun c h1 h3 h4 h5 h6 h7 => by rw [h2 c h1 h3 h4 h7, a1 c h1 h3 h4 h5 h6 h7], ?_, ?_, ?_⟩
  · rw [h2 111 (by omega) (by omega) (by omega) (by omega)]; exact a2
  · rw [h2 111 (by omega) (by omega) (by omega) (by omega)]; exact a3
  · exact a4.move fun c c1 c2 => h2 c (by omega) (by omega) (by omega) (by omega)
theorem FrB.then (h : FrB K σ σ1) (h2 : MF σ1 σ2) : FrB K σ σ2 := by
  obtain ⟨a1, a2, a3, a4, a5, a6⟩ := h
  refine ⟨fun c c1 c2 c3 c4 => by rw [h2.1 c c1 c2 c4, a1 c c1 c2 c3 c4], fun i hi => by rw [h2.2.1 i (by omega), a2 i hi], h2.2.2, by rw [h2.2.1 6 (by omega)]; exact a4, fun i k hi hk => by rw [h2.1 403 (by decide) (by decide) (by decide)]; exact a5 i k hi hk, fun k hk => by rw [h2.1 403 (by decide) (by decide) (by decide)]; exact a6 k hk⟩
theorem FrB.then4 (h : FrB K σ σ1) (h2 : ∀ c, c ≠ 400 → σ2 c = σ1 c) : FrB K σ σ2 := h.then (MF.of h.2.2.1 h2)
theorem act_inv (hC : Core (1000 * j) σ v L) (hR : Rest (1000 * j) σ v.txt) (hn : nx < 12) (hK : K ≤ 12) (h6 : ∀ i, i < K → ∃ u : View, WF u ∧ u.txt = v.txt ∧ SC σ (113 + 21 * ((nx + 12 - K + i) % 12)) u (1000 * j) ∧ SM (fun k => if k < 488 then σ 403 (488 * i + k) else v.txt k) u) (fA : FrA nx K (1000 * j) v σ σ1) (fB : FrB K σ1 σ2) (W : WF u) (R : SC σ1 9 u e2) (he : e2 ≤ 1000 * j + 1000) (M : SM (σ2 400) u) (ht : u.txt = v.txt) : Inv (j + 1) σ2 := by
  obtain ⟨b1, b2, b3, b4, b5, b6⟩ := fB
  obtain ⟨a1, a2, a3, a4⟩ := fA
  have b403 : σ1 403 = σ 403 := a1 403 (by omega) (by omega) (by omega) (by omega) (by omega) (by omega)
  have b400 : σ1 400 = σ 400 := a1 400 (by omega) (by omega) (by omega) (by omega) (by omega) (by omega)
  have b399 : σ1 399 = σ 399 := a1 399 (by omega) (by omega) (by omega) (by omega) (by omega) (by omega)
  have f : ∀ c, c < 9 ∨ (30 ≤ c ∧ c < 82) ∨ (85 ≤ c ∧ c < 111) ∨ (366 ≤ c ∧ c < 399) ∨ c = 401 ∨ c = 404 → σ2 c = σ c := fun c hc => by
    rw [b1 c (by omega) (by omega) (by omega) (by omega), a1 c (by omega) (by omega) (by omega) (by omega) (by omega) (by omega)]
  obtain ⟨h1, h2, h3, h4, h5⟩ := hR
  obtain ⟨c1, c2, c3, c4, c5, c6⟩ := hC
  refine ⟨u, L, ⟨W, (R.move fun c q1 q2 => b1 c (by omega) (by omega) (by omega) (by omega)).mono (by omega), M, c4.move fun c q1 q2 => f c (by omega), by rw [ht]; exact c5, by rw [f 72 (by omega), ht]; exact c6⟩, b3, h2.move (f 1 (by omega)) (f 3 (by omega)) (by rw [b2 8 (by omega), b399]) (by rw [b2 12 (by omega), b399]) (f 404 (by omega)), ?_, (h4.move (f 0 (by omega)) (fun c hc => f c (by omega)) (by rw [b2 3 (by omega), b399]) (f 401 (by omega))).mono (by omega), ?_⟩
  · have hk : (K = 12 ∧ keptB K = 11 ∧ shB K = 1) ∨ (K < 12 ∧ keptB K = K ∧ shB K = 0) := by
      unfold keptB shB
      by_cases c : K = 12
      · exact Or.inl ⟨c, if_pos c, if_pos c⟩
      · exact Or.inr ⟨by omega, if_neg c, if_neg c⟩
    refine ⟨(nx + 1) % 12, keptB K + 1, by omega, by omega, ?_, ?_, b4, fun i hi => ?_⟩
    · rw [b1 111 (by omega) (by omega) (by omega) (by omega)]; exact a2
    · rw [b1 111 (by omega) (by omega) (by omega) (by omega)]; exact a3
    · by_cases e : i = keptB K
      · subst e
        refine ⟨v, c1, ht.symm, ?_, ?_⟩
        · rw [show ((nx + 1) % 12 + 12 - (keptB K + 1) + keptB K) % 12 = nx by omega]
          exact (a4.move fun c q1 q2 => b1 c (by omega) (by omega) (by omega) (by omega)).mono (by omega)
        · have : (fun k => if k < 488 then σ2 403 (488 * keptB K + k) else u.txt k) = σ 400 := by
            funext k
            by_cases hk : k < 488
            · rw [if_pos hk, b6 k hk, b400]
            · rw [if_neg hk, ht, c3.txt k (by omega)]
          rw [this]
          exact c3
      · obtain ⟨u2, u3, u4, u5, u6⟩ := h6 (i + shB K) (by omega)
        refine ⟨u2, u3, by rw [u4, ht], ?_, ?_⟩
        · have hs : ((nx + 1) % 12 + 12 - (keptB K + 1) + i) % 12 = (nx + 12 - K + (i + shB K)) % 12 := by omega
          have hne : (nx + 12 - K + (i + shB K)) % 12 ≠ nx := by omega
          have hlt : (nx + 12 - K + (i + shB K)) % 12 < 12 := Nat.mod_lt _ (by omega)
          rw [hs]
          generalize (nx + 12 - K + (i + shB K)) % 12 = q at *
          refine (u5.move fun c q1 q2 => ?_).mono (by omega)
          rw [b1 c (by omega) (by omega) (by omega) (by omega), a1 c (by omega) (by omega) (by omega) (by omega) (by omega) (by omega)]
        · have : (fun k => if k < 488 then σ2 403 (488 * i + k) else u.txt k) = fun k => if k < 488 then σ 403 (488 * (i + shB K) + k) else v.txt k := by
            funext k
            by_cases hk : k < 488
            · rw [if_pos hk, if_pos hk, b5 i k (by omega) hk, b403]
            · rw [if_neg hk, if_neg hk, ht]
          rw [this]
          exact u6
  · unfold Mis
    rw [f 391 (by omega), f 398 (by omega)]
    exact h5
theorem hSl_ : ∀ n, n < 12 → hSl (nI n) = some (113 + 21 * n) := by decide +kernel
theorem gk_ : ∀ n, n < 12 → kd (113 + 21 * n) = 2 := by decide +kernel
theorem slot_at (hn : nx < 12) : X2_slotAt σ (nI nx) = some (some (113 + 21 * nx)) := by
  unfold X2_slotAt
  have : ln 112 = 12 := by decide +kernel
  rw [if_neg (nI_pos (by omega)), this, if_neg (nI_ge (by omega) (by omega)), hSl_ nx hn, bd_s]
theorem mod12 {a : Nat} (ha : a < 1000) : nI a - nI a / 12 * 12 = nI (a % 12) := by
  rw [show (12 : Int32) = nI 12 from rfl, pk_div (by omega) (by omega) (by omega), nI_mul, nI_subN (by omega)]
  congr 1
  omega
theorem e_rem (hC : Core e σ v L) (hn : nx < 12) (hK : K ≤ 12) (h1 : σ 111 1 = nI nx) (h2 : σ 111 2 = nI K) : ∃ σ1, X2_remember 9 σ = some σ1 ∧ FrA nx K e v σ σ1 ∧ SC σ1 9 v e ∧ LC σ1 72 L := by
  obtain ⟨W, R, M, KL, KT, Kl⟩ := hC
  obtain ⟨τ, t1, t2, t3⟩ := e_copy (gk_ nx hn) kd9 (Or.inr (by omega)) R W
  unfold X2_remember
  rw [h1, slot_at hn, bd_s]
  simp only
  unfold gk2
  rw [if_pos (gk_ nx hn), bd_s, t1, bd_s, pu_s, bd_s, t3 111 (by omega), h1, nI_1, mod12 (by omega), pu_s, bd_s, st_at' (by decide), t3 111 (by omega), h2, nI_1]
  have hk : (if (12 : Int32) < nI (K + 1) then (12 : Int32) else nI (K + 1)) = nI (keptB K + 1) := by
    unfold keptB
    by_cases c : K = 12
    · rw [if_pos c, c]; rfl
    · rw [if_neg c, if_neg (show ¬ (12 : Int32) < nI (K + 1) from nI_nlt (a := 12) (by omega) (by omega))]
  rw [hk]
  have f : ∀ c, c ≠ 111 → (c < 113 + 21 * nx ∨ 134 + 21 * nx ≤ c) → st (st τ 111 1 (nI ((nx + 1) % 12))) 111 2 (nI (keptB K + 1)) c = σ c := fun c c1 c2 => by rw [st_n c1, st_n c1, t3 c (by omega)]
  refine ⟨_, rfl, ⟨fun c _ _ _ c1 c2 _ => f c c1 c2, ?_, st_at, t2.move fun c c1 c2 => by rw [st_n (by omega), st_n (by omega)]⟩, R.move fun c c1 c2 => f c (by omega) (by omega), KL.move fun c c1 c2 => f c (by omega) (by omega)⟩
  rw [st_at' (by decide), st_at]
theorem m_rem (hb : BO σ) (hK : K ≤ 12) (h6 : σ 399 6 = nI K) : ∃ σ2, X12_remembers σ = some σ2 ∧ FrB K σ σ2 ∧ σ2 400 = σ 400 ∧ σ2 399 0 = σ 399 0 := by
  obtain ⟨l0, l1, l2, l3⟩ := ln_m
  have l403 : ln 403 = 5856 := l3
  have app : ∀ (τ : Mem) (k : Nat), k ≤ 11 → τ 399 6 = nI k → ∃ σ2, X12_remembers_50 τ = some σ2 ∧ (∀ c, c ≠ 399 → c ≠ 403 → σ2 c = τ c) ∧ (∀ i, i ≠ 6 → σ2 399 i = τ 399 i) ∧ σ2 399 6 = nI (k + 1) ∧ (∀ q, q < 488 → σ2 403 (488 * k + q) = τ 400 q) ∧ ∀ q, q < 488 * k → σ2 403 q = τ 403 q := by
    intro τ k hk h
    unfold X12_remembers_50
    rw [show (0 : Int32) = nI 0 from rfl]
    refine loop_P (L := fun f a i => X12_remembers_52 f i a) (P := fun i a => a = sr τ 403 (fun q => if 488 * k ≤ q ∧ q < 488 * k + i then τ 400 (q - 488 * k) else τ 403 q)) (Q := fun r => ∃ σ2, r = some σ2 ∧ (∀ c, c ≠ 399 → c ≠ 403 → σ2 c = τ c) ∧ (∀ i, i ≠ 6 → σ2 399 i = τ 399 i) ∧ σ2 399 6 = nI (k + 1) ∧ (∀ q, q < 488 → σ2 403 (488 * k + q) = τ 400 q) ∧ ∀ q, q < 488 * k → σ2 403 q = τ 403 q) (n := 488) (a := τ) (fun f a hP => ?_) (fun f a i hi hP => Or.inr ?_) (Nat.zero_le _) (FUb (by omega)) ?_
    · rw [X12_remembers_52, if_pos (by decide), pu_s, bd_s]
      refine ⟨_, rfl, fun c c1 c2 => by rw [st_n c1, hP, sr_n c2], fun i hi => by rw [st_at' hi, hP, sr_n (by decide)], by rw [st_at, hP, sr_n (by decide), h, nI_1], fun q hq => ?_, fun q hq => ?_⟩
      · rw [st_n (by decide), hP, sr_s, if_pos ⟨by omega, by omega⟩]; congr 1; omega
      · rw [st_n (by decide), hP, sr_s, if_neg (by omega)]
    · rw [X12_remembers_52, if_neg (show ¬ (488 : Int32) ≤ nI i from nI_ge (b := 488) (by omega) (by omega)), m_at (by omega), bd_s, hP, sr_n (by decide), sr_n (by decide), h, show (488 : Int32) = nI 488 from rfl, nI_mul, nI_add, au_nI (by omega) (by omega), bd_s, nI_1]
      refine ⟨_, rfl, ?_⟩
      rw [st_sr, sr_sr, sr_s]
      congr 1
      funext q
      unfold upd
      dsimp only
      by_cases c : q = 488 * k + i
      · rw [if_pos c, if_pos ⟨by omega, by omega⟩]; congr 1; omega
      · rw [if_neg c]
        by_cases c2 : 488 * k ≤ q ∧ q < 488 * k + i
        · rw [if_pos c2, if_pos ⟨by omega, by omega⟩]
        · rw [if_neg c2, if_neg (by omega)]
    · funext c
      unfold sr
      split
      · rename_i hc; rw [hc]; funext q; rw [if_neg (by omega)]
      · rfl
  unfold X12_remembers
  rw [h6]
  by_cases c : K = 12
  · rw [if_pos (by rw [c]; rfl), show (0 : Int32) = nI 0 from rfl]
    have hk : keptB K = 11 := if_pos c
    have hs : shB K = 1 := if_pos c
    refine loop_P (L := fun f a i => X12_remembers_11 f i a) (P := fun i a => a = sr σ 403 (fun q => if q < i then σ 403 (q + 488) else σ 403 q)) (Q := fun r => ∃ σ2, r = some σ2 ∧ FrB K σ σ2 ∧ σ2 400 = σ 400 ∧ σ2 399 0 = σ 399 0) (n := 5368) (a := σ) (fun f a hP => ?_) (fun f a i hi hP => Or.inr ?_) (Nat.zero_le _) (FUb (by omega)) ?_
    · rw [X12_remembers_11, if_pos (by decide), pu_s, bd_s]
      have h66 : st a 399 6 ((a 399 6) - 1) 399 6 = nI 11 := by
        rw [st_at, hP, sr_n (by decide), h6, c]; rfl
      obtain ⟨σ2, q1, q2, q3, q4, q5, q6⟩ := app (st a 399 6 ((a 399 6) - 1)) 11 (by omega) h66
      have g : ∀ c, c ≠ 399 → c ≠ 403 → σ2 c = σ c := fun c c1 c2 => by rw [q2 c c1 c2, st_n c1, hP, sr_n c2]
      have g9 : ∀ i, i ≠ 6 → σ2 399 i = σ 399 i := fun i hi => by rw [q3 i hi, st_at' hi, hP, sr_n (by decide)]
      refine ⟨σ2, q1, ?_, g 400 (by decide) (by decide), g9 0 (by decide)⟩
      unfold FrB
      rw [hk, hs]
      refine ⟨fun c c1 _ c3 _ => g c c1 c3, fun i hi => g9 i (by omega), ?_, q4, fun i k hi hk => ?_, fun k hk => ?_⟩
      · unfold BO; rw [g9 15 (by decide), g9 17 (by decide)]; exact hb
      · rw [q6 _ (by omega), st_n (by decide), hP, sr_s, if_pos (by omega)]; congr 1; omega
      · rw [q5 k hk, st_n (by decide), hP, sr_n (by decide)]
    · rw [X12_remembers_11, if_neg (show ¬ (5368 : Int32) ≤ nI i from nI_ge (b := 5368) (by omega) (by omega)), show (488 : Int32) = nI 488 from rfl, nI_add, ag_nI (by omega) (by omega), bd_s, au_nI (by omega) (by omega), bd_s, nI_1, hP]
      refine ⟨_, rfl, ?_⟩
      rw [st_sr, sr_sr, sr_s]
      congr 1
      funext q
      unfold upd
      dsimp only
      by_cases c : q = i
      · subst c
        rw [if_pos rfl, if_neg (show ¬ q + 488 < q by omega), if_pos (show q < q + 1 by omega)]
      · rw [if_neg c]
        by_cases c2 : q < i
        · rw [if_pos c2, if_pos (by omega)]
        · rw [if_neg c2, if_neg (by omega)]
    · funext c
      unfold sr
      split
      · rename_i hc; rw [hc]; funext q; rw [if_neg (by omega)]
      · rfl
  · rw [if_neg (show ¬ nI K = 12 from fun z => c (nI_inj (b := 12) (by omega) (by omega) z))]
    have hk : keptB K = K := if_neg c
    have hs : shB K = 0 := if_neg c
    obtain ⟨σ2, q1, q2, q3, q4, q5, q6⟩ := app σ K (by omega) h6
    unfold FrB
    rw [hk, hs]
    refine ⟨σ2, q1, ⟨fun c c1 _ c3 _ => q2 c c1 c3, fun i hi => q3 i (by omega), ?_, q4, fun i k hi hk => ?_, q5⟩, q2 400 (by decide) (by decide), q3 0 (by decide)⟩
    · unfold BO; rw [q3 15 (by decide), q3 17 (by decide)]; exact hb
    · rw [q6 _ (by omega)]; rfl
end ACTS

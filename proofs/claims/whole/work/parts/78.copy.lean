/-! streets, laws and rows copied -/
section COPY
variable {σ : Mem} {A B C D : Nat} {v : View} {e : Nat} {L : Lw}
theorem e_cpRow {a0 a1 n : Nat} (h0 : ln (a0 + 1) = n) (h1 : ln (a1 + 1) = n) (hn : n < 2 ^ 31) : ∃ σ2, X6_copyFrom a0 a1 σ = some σ2 ∧ (∀ i, i < n → σ2 (a0 + 1) i = σ (a1 + 1) i) ∧ ∀ c, c ≠ a0 + 1 → σ2 c = σ c := by
  unfold X6_copyFrom cp
  rw [h0, h1, mn999 hn hn, Nat.min_self, nI_clamp hn, show (0 : Int32).toNatClampNeg = 0 from by decide, if_pos ⟨by decide, by decide, nI_pos hn, by omega, by omega⟩, bd_s]
  refine ⟨_, rfl, fun i hi => ?_, fun c hc => sr_n hc⟩
  rw [sr_s]
  unfold va_cpy
  rw [if_pos ⟨Nat.zero_le _, by omega⟩, Nat.zero_add, Nat.sub_zero]
theorem e_copy (hA : kd A = 2) (hB : kd B = 2) (hs : A + 21 ≤ B ∨ B + 21 ≤ A) (R : SC σ B v e) (W : WF v) : ∃ σ2, X7_copyFrom A B σ = some σ2 ∧ SC σ2 A v e ∧ ∀ c, c < A ∨ A + 21 ≤ c → σ2 c = σ c := by
  have h9 := W.n9
  have h6 := W.k6
  obtain ⟨a2, a4, a6, a8, a10, a12, a14, a16, a18, a20⟩ := ln_str hA
  obtain ⟨b2, b4, b6, b8, b10, b12, b14, b16, b18, b20⟩ := ln_str hB
  obtain ⟨c, c1, c2, c3, c4⟩ := R.log
  unfold X7_copyFrom
  have hAB : B ≠ A := by omega
  simp only [pu_s, bd_s, st_n hAB]
  rw [show σ B 6 = b2i v.mist from R.mist, gb_b, bd_s]
  generalize hτ : st (st (st (st (st (st (st (st (st σ A 0 (σ B 0)) A 1 (σ B 1)) A 2 (σ B 2)) A 3 (σ B 3)) A 4 (σ B 4)) A 5 (σ B 5)) A 6 (b2i v.mist)) A 7 (σ B 7)) A 8 (σ B 8) = τ0
  have q : ∀ i, i < 9 → τ0 A i = σ B i := by
    intro i hi
    rw [← hτ]
    have : i = 0 ∨ i = 1 ∨ i = 2 ∨ i = 3 ∨ i = 4 ∨ i = 5 ∨ i = 6 ∨ i = 7 ∨ i = 8 := by omega
    rcases this with rfl | rfl | rfl | rfl | rfl | rfl | rfl | rfl | rfl <;> simp only [st_ap, true_and, Nat.reduceEqDiff, if_false, if_true]
    exact R.mist.symm
  have f0 : ∀ c, c ≠ A → τ0 c = σ c := by
    intro c hc
    rw [← hτ]
    simp only [st_n hc]
  obtain ⟨τ1, t1, r1, f1⟩ := e_cpRow (σ := τ0) (a0 := A + 1) (a1 := B + 1) (n := 9) a2 b2 (by decide)
  rw [t1, bd_s]
  obtain ⟨τ2, t2, r2, f2⟩ := e_cpRow (σ := τ1) (a0 := A + 3) (a1 := B + 3) (n := 9) a4 b4 (by decide)
  rw [t2, bd_s]
  obtain ⟨τ3, t3, r3, f3⟩ := e_cpRow (σ := τ2) (a0 := A + 5) (a1 := B + 5) (n := 9) a6 b6 (by decide)
  rw [t3, bd_s]
  obtain ⟨τ4, t4, r4, f4⟩ := e_cpRow (σ := τ3) (a0 := A + 7) (a1 := B + 7) (n := 9) a8 b8 (by decide)
  rw [t4, bd_s]
  obtain ⟨τ5, t5, r5, f5⟩ := e_cpRow (σ := τ4) (a0 := A + 9) (a1 := B + 9) (n := 6) a10 b10 (by decide)
  rw [t5, bd_s]
  obtain ⟨τ6, t6, r6, f6⟩ := e_cpRow (σ := τ5) (a0 := A + 11) (a1 := B + 11) (n := 6) a12 b12 (by decide)
  rw [t6, bd_s]
  obtain ⟨τ7, t7, r7, f7⟩ := e_cpRow (σ := τ6) (a0 := A + 13) (a1 := B + 13) (n := 6) a14 b14 (by decide)
  rw [t7, bd_s]
  obtain ⟨τ8, t8, r8, f8⟩ := e_cpRow (σ := τ7) (a0 := A + 15) (a1 := B + 15) (n := 6) a16 b16 (by decide)
  rw [t8, bd_s]
  obtain ⟨τ9, t9, r9, f9⟩ := e_cpRow (σ := τ8) (a0 := A + 17) (a1 := B + 17) (n := 36) a18 b18 (by decide)
  rw [t9, bd_s]
  obtain ⟨τ10, t10, r10, f10⟩ := e_cpRow (σ := τ9) (a0 := A + 19) (a1 := B + 19) (n := 60) a20 b20 (by decide)
  rw [t10, bd_s]
  have g : ∀ c, c ≠ A → (∀ m, m < 10 → c ≠ A + (2 * m + 2)) → τ10 c = σ c := by
    intro c h h2
    rw [f10 c (h2 9 (by omega)), f9 c (h2 8 (by omega)), f8 c (h2 7 (by omega)), f7 c (h2 6 (by omega)), f6 c (h2 5 (by omega)), f5 c (h2 4 (by omega)), f4 c (h2 3 (by omega)), f3 c (h2 2 (by omega)), f2 c (h2 1 (by omega)), f1 c (h2 0 (by omega)), f0 c h]
  have gB : ∀ c, B ≤ c → c < B + 21 → τ10 c = σ c := fun c h1 h2 => g c (by omega) (fun m hm => by omega)
  have gA : τ10 A = τ0 A := by
    rw [f10 A (by omega), f9 A (by omega), f8 A (by omega), f7 A (by omega), f6 A (by omega), f5 A (by omega), f4 A (by omega), f3 A (by omega), f2 A (by omega), f1 A (by omega)]
  have x2 : ∀ i, i < 9 → τ10 (A + 2) i = σ (B + 2) i := fun i hi => by
    rw [f10 _ (by omega), f9 _ (by omega), f8 _ (by omega), f7 _ (by omega), f6 _ (by omega), f5 _ (by omega), f4 _ (by omega), f3 _ (by omega), f2 _ (by omega)]
    show τ1 (A + 1 + 1) i = _
    rw [r1 i hi]
    show τ0 (B + 2) i = _
    rw [f0 _ (by omega)]
  have x4 : ∀ i, i < 9 → τ10 (A + 4) i = σ (B + 4) i := fun i hi => by
    rw [f10 _ (by omega), f9 _ (by omega), f8 _ (by omega), f7 _ (by omega), f6 _ (by omega), f5 _ (by omega), f4 _ (by omega), f3 _ (by omega)]
    show τ2 (A + 3 + 1) i = _
    rw [r2 i hi]
    show τ1 (B + 4) i = _
    rw [f1 _ (by omega), f0 _ (by omega)]
  have x6 : ∀ i, i < 9 → τ10 (A + 6) i = σ (B + 6) i := fun i hi => by
    rw [f10 _ (by omega), f9 _ (by omega), f8 _ (by omega), f7 _ (by omega), f6 _ (by omega), f5 _ (by omega), f4 _ (by omega)]
    show τ3 (A + 5 + 1) i = _
    rw [r3 i hi]
    show τ2 (B + 6) i = _
    rw [f2 _ (by omega), f1 _ (by omega), f0 _ (by omega)]
  have x8 : ∀ i, i < 9 → τ10 (A + 8) i = σ (B + 8) i := fun i hi => by
    rw [f10 _ (by omega), f9 _ (by omega), f8 _ (by omega), f7 _ (by omega), f6 _ (by omega), f5 _ (by omega)]
    show τ4 (A + 7 + 1) i = _
    rw [r4 i hi]
    show τ3 (B + 8) i = _
    rw [f3 _ (by omega), f2 _ (by omega), f1 _ (by omega), f0 _ (by omega)]
  have x10 : ∀ i, i < 6 → τ10 (A + 10) i = σ (B + 10) i := fun i hi => by
    rw [f10 _ (by omega), f9 _ (by omega), f8 _ (by omega), f7 _ (by omega), f6 _ (by omega)]
    show τ5 (A + 9 + 1) i = _
    rw [r5 i hi]
    show τ4 (B + 10) i = _
    rw [f4 _ (by omega), f3 _ (by omega), f2 _ (by omega), f1 _ (by omega), f0 _ (by omega)]
  have x12 : ∀ i, i < 6 → τ10 (A + 12) i = σ (B + 12) i := fun i hi => by
    rw [f10 _ (by omega), f9 _ (by omega), f8 _ (by omega), f7 _ (by omega)]
    show τ6 (A + 11 + 1) i = _
    rw [r6 i hi]
    show τ5 (B + 12) i = _
    rw [f5 _ (by omega), f4 _ (by omega), f3 _ (by omega), f2 _ (by omega), f1 _ (by omega), f0 _ (by omega)]
  have x14 : ∀ i, i < 6 → τ10 (A + 14) i = σ (B + 14) i := fun i hi => by
    rw [f10 _ (by omega), f9 _ (by omega), f8 _ (by omega)]
    show τ7 (A + 13 + 1) i = _
    rw [r7 i hi]
    show τ6 (B + 14) i = _
    rw [f6 _ (by omega), f5 _ (by omega), f4 _ (by omega), f3 _ (by omega), f2 _ (by omega), f1 _ (by omega), f0 _ (by omega)]
  have x16 : ∀ i, i < 6 → τ10 (A + 16) i = σ (B + 16) i := fun i hi => by
    rw [f10 _ (by omega), f9 _ (by omega)]
    show τ8 (A + 15 + 1) i = _
    rw [r8 i hi]
    show τ7 (B + 16) i = _
    rw [f7 _ (by omega), f6 _ (by omega), f5 _ (by omega), f4 _ (by omega), f3 _ (by omega), f2 _ (by omega), f1 _ (by omega), f0 _ (by omega)]
  have x18 : ∀ i, i < 36 → τ10 (A + 18) i = σ (B + 18) i := fun i hi => by
    rw [f10 _ (by omega)]
    show τ9 (A + 17 + 1) i = _
    rw [r9 i hi]
    show τ8 (B + 18) i = _
    rw [f8 _ (by omega), f7 _ (by omega), f6 _ (by omega), f5 _ (by omega), f4 _ (by omega), f3 _ (by omega), f2 _ (by omega), f1 _ (by omega), f0 _ (by omega)]
  have x20 : ∀ i, i < 60 → τ10 (A + 20) i = σ (B + 20) i := fun i hi => by
    rw [show τ10 (A + 20) i = τ10 (A + 20) i from rfl]
    show τ10 (A + 19 + 1) i = _
    rw [r10 i hi]
    show τ9 (B + 20) i = _
    rw [f9 _ (by omega), f8 _ (by omega), f7 _ (by omega), f6 _ (by omega), f5 _ (by omega), f4 _ (by omega), f3 _ (by omega), f2 _ (by omega), f1 _ (by omega), f0 _ (by omega)]
  refine ⟨_, rfl, ?_, fun c hc => by rw [st_n (by omega)]; exact g c (by omega) (fun m hm => by omega)⟩
  have y : ∀ i, i < 9 → st τ10 A 19 (τ10 B 19) A i = σ B i := fun i hi => by rw [st_at' (by omega), gA]; exact q i hi
  have z : ∀ c, c ≠ A → st τ10 A 19 (τ10 B 19) c = τ10 c := fun c hc => st_n hc
  exact SC.of ((y 0 (by omega)).trans R.n) ((y 1 (by omega)).trans R.k) ((y 2 (by omega)).trans R.texts) ((y 3 (by omega)).trans R.hour) ((y 4 (by omega)).trans R.night) ((y 5 (by omega)).trans R.fog) ((y 6 (by omega)).trans R.mist) ((y 7 (by omega)).trans R.seed) ((y 8 (by omega)).trans R.burn)
    (fun p hp => by rw [z _ (by omega), x2 p (by omega)]; exact R.oil p hp) (fun p hp => by rw [z _ (by omega), x4 p (by omega)]; exact R.own p hp) (fun p hp => by rw [z _ (by omega), x6 p (by omega)]; exact R.dark p hp) (fun p hp => by rw [z _ (by omega), x8 p (by omega)]; exact R.way p hp)
    (fun p hp => by rw [z _ (by omega), x10 p (by omega)]; exact R.pl p hp) (fun p hp => by rw [z _ (by omega), x12 p (by omega)]; exact R.tp p hp) (fun p hp => by rw [z _ (by omega), x14 p (by omega)]; exact R.hd p hp) (fun p hp => by rw [z _ (by omega), x16 p (by omega)]; exact R.lt p hp)
    (fun p q hp hq hn => by rw [z _ (by omega), x18 _ (by omega)]; exact R.like p q hp hq hn)
    ⟨c, c1, by rw [st_at, gB B (Nat.le_refl _) (by omega)]; exact c2, c3, fun a r ha => by
      have hlt := (List.getElem?_eq_some_iff.mp ha).1
      rw [z _ (by omega), x20 _ (Nat.mod_lt _ (by decide))]; exact c4 a r ha⟩
theorem e_copyLaw (hC : kd C = kd 72) (hD : kd D = kd 72) (hs : C + 13 ≤ D ∨ D + 13 ≤ C) (K : LC σ D L) : ∃ σ2, X3_copyFrom C D σ = some σ2 ∧ LC σ2 C L ∧ σ2 C 0 = σ D 0 ∧ ∀ c, c < C ∨ C + 13 ≤ c → σ2 c = σ c := by
  obtain ⟨a2, a4, a6, a8, a10, a12⟩ := kd_law hC
  obtain ⟨b2, b4, b6, b8, b10, b12⟩ := kd_law hD
  obtain ⟨k1, k2, k3, k4, k5⟩ := K
  have hDC : D ≠ C := by omega
  unfold X3_copyFrom
  rw [pu_s, bd_s]
  obtain ⟨τ1, t1, r1, f1⟩ := e_cpRow (σ := st σ C 0 (σ D 0)) (a0 := C + 1) (a1 := D + 1) (n := 12) a2 b2 (by decide)
  rw [t1, bd_s]
  obtain ⟨τ2, t2, r2, f2⟩ := e_cpRow (σ := τ1) (a0 := C + 3) (a1 := D + 3) (n := 12) a4 b4 (by decide)
  rw [t2, bd_s]
  obtain ⟨τ3, t3, r3, f3⟩ := e_cpRow (σ := τ2) (a0 := C + 5) (a1 := D + 5) (n := 12) a6 b6 (by decide)
  rw [t3, bd_s]
  obtain ⟨τ4, t4, r4, f4⟩ := e_cpRow (σ := τ3) (a0 := C + 7) (a1 := D + 7) (n := 400) a8 b8 (by decide)
  rw [t4, bd_s, pu_s, bd_s]
  have g : ∀ c, c ≠ C → c ≠ C + 2 → c ≠ C + 4 → c ≠ C + 6 → c ≠ C + 8 → τ4 c = σ c := fun c h0 h2 h4 h6 h8 => by rw [f4 c h8, f3 c h6, f2 c h4, f1 c h2, st_n h0]
  have z : ∀ c, c ≠ C → st τ4 C 5 (τ4 D 5) c = τ4 c := fun c hc => st_n hc
  have e0 : st τ4 C 5 (τ4 D 5) C 0 = σ D 0 := by rw [st_at' (by decide), f4 C (by omega), f3 C (by omega), f2 C (by omega), f1 C (by omega), st_at]
  have e5 : st τ4 C 5 (τ4 D 5) C 5 = σ D 5 := by rw [st_at, g D (by omega) (by omega) (by omega) (by omega) (by omega)]
  refine ⟨_, rfl, ⟨by rw [e0]; exact k1, k2, by rw [e5]; exact k3, k4, fun i l hl => ?_⟩, e0, fun c hc => by rw [st_n (by omega)]; exact g c (by omega) (by omega) (by omega) (by omega) (by omega)⟩
  have hi := (List.getElem?_eq_some_iff.mp hl).1
  obtain ⟨w1, w2, w3, w4, w5⟩ := k5 i l hl
  refine ⟨?_, ?_, ?_, w4, fun k c hc => ?_⟩
  · rw [z _ (by omega), f4 _ (by omega), f3 _ (by omega), f2 _ (by omega)]
    show τ1 (C + 1 + 1) i = _
    rw [r1 i (by omega), st_n (by omega)]; exact w1
  · rw [z _ (by omega), f4 _ (by omega), f3 _ (by omega)]
    show τ2 (C + 3 + 1) i = _
    rw [r2 i (by omega), f1 _ (by omega), st_n (by omega)]; exact w2
  · rw [z _ (by omega), f4 _ (by omega)]
    show τ3 (C + 5 + 1) i = _
    rw [r3 i (by omega), f2 _ (by omega), f1 _ (by omega), st_n (by omega)]; exact w3
  · have hk := (List.getElem?_eq_some_iff.mp hc).1
    have h1 := off_s hl
    have h2 := off_le hi
    rw [z _ (by omega)]
    show τ4 (C + 7 + 1) _ = _
    rw [r4 _ (by omega), f3 _ (by omega), f2 _ (by omega), f1 _ (by omega), st_n (by omega)]; exact w5 k c hc
/-! rows of the reference -/
def cpL (a b : Nat → Int32) (m : Nat) : Nat → Int32 := fun i => if i < m then a i else b i
theorem cpL_s {a b : Nat → Int32} {m : Nat} : upd (cpL a b m) m (a m) = cpL a b (m + 1) := by
  funext i
  unfold upd cpL
  by_cases h : i = m
  · rw [if_pos h, h, if_pos (by omega)]
  · rw [if_neg h]
    by_cases h2 : i < m
    · rw [if_pos h2, if_pos (by omega)]
    · rw [if_neg h2, if_neg (by omega)]
theorem cpL_0 {a b : Nat → Int32} : cpL a b 0 = b := by
  funext i
  unfold cpL
  rw [if_neg (by omega)]
/-- a loop that copies the first n of a row to another one -/
theorem cp_loop {β : Type} {Lp : Nat → Int32 → Mem → Option β} {k0 k1 n : Nat} {out : Mem → Option β} (hk : k0 ≠ k1) (h0 : ∀ f τ, Lp (f + 1) (nI n) τ = out τ) (h1 : ∀ f τ i, i < n → Lp (f + 1) (nI i) τ = Lp f (nI (i + 1)) (st τ k1 i (τ k0 i))) {fuel : Nat} (hf : n < fuel) : Lp fuel (nI 0) σ = out (sr σ k1 (cpL (σ k0) (σ k1) n)) := by
  have key : ∀ (m i f : Nat), i + m = n → m < f → Lp f (nI i) (sr σ k1 (cpL (σ k0) (σ k1) i)) = out (sr σ k1 (cpL (σ k0) (σ k1) n)) := by
    intro m
    induction m with
    | zero =>
      intro i f hi hf
      obtain ⟨f, rfl⟩ : ∃ z, f = z + 1 := ⟨f - 1, by omega⟩
      rw [show i = n by omega, h0]
    | succ m ih =>
      intro i f hi hf
      obtain ⟨f, rfl⟩ : ∃ z, f = z + 1 := ⟨f - 1, by omega⟩
      rw [h1 f _ i (by omega), sr_n hk, st_sr, sr_sr, sr_s, cpL_s]
      exact ih (i + 1) f (by omega) (by omega)
  have := key n 0 fuel (by omega) hf
  rwa [cpL_0, sr_id] at this
theorem ln_m : ln 400 = 888 ∧ ln 401 = 888 ∧ ln 402 = 488 ∧ ln 403 = 5856 := by decide +kernel
theorem m_putsAside : X12_putsAside σ = some (sr σ 402 (cpL (σ 400) (σ 402) 488)) := by
  obtain ⟨l0, l1, l2, l3⟩ := ln_m
  unfold X12_putsAside
  exact cp_loop (Lp := fun f i τ => X12_putsAside_2 f i τ) (out := some) (by decide) (fun f τ => by rw [X12_putsAside_2, if_pos (by decide)]) (fun f τ i hi => by
    rw [X12_putsAside_2, if_neg (show ¬ (488 : Int32) ≤ nI i from nI_ge (b := 488) (by omega) (by omega)), m_at (by omega), bd_s, au_nI (by omega) (by omega), bd_s, nI_1]) (FUb (by omega))
theorem m_comesBack : X12_comesBack σ = some (sr σ 400 (cpL (σ 402) (σ 400) 488)) := by
  obtain ⟨l0, l1, l2, l3⟩ := ln_m
  unfold X12_comesBack
  exact cp_loop (Lp := fun f i τ => X12_comesBack_2 f i τ) (out := some) (by decide) (fun f τ => by rw [X12_comesBack_2, if_pos (by decide)]) (fun f τ i hi => by
    rw [X12_comesBack_2, if_neg (show ¬ (488 : Int32) ≤ nI i from nI_ge (b := 488) (by omega) (by omega)), ag_nI (by omega) (by omega), bd_s, m_set (by omega), bd_s, nI_1]) (FUb (by omega))
end COPY

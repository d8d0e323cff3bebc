/-! every record -/
section EVERY
theorem Inv.more {j : Nat} {σ : Mem} (h : Inv j σ) : Inv (j + 1) σ := by
  obtain ⟨v, L, hC, hR⟩ := h
  exact ⟨v, L, hC.mono (by omega), hR.mono (by omega)⟩
theorem hI_of : ∀ j σ x0 x1 x2 x3 x4 x5, j < 512 → Inv j σ → ∃ σ2, lw_step x0 x1 x2 x3 x4 x5 σ = some (true, σ2) ∧ Inv (j + 1) σ2 := by
  intro j σ x0 x1 x2 x3 x4 x5 hj hI
  have at_ : ∀ k, k < 54 → ∃ σ2, lw_at k x1 x2 x3 x4 x5 σ = some (true, σ2) ∧ Inv (j + 1) σ2 := by
    intro k hk
    obtain ⟨v, L, hC, hR⟩ := hI
    match k, hk with
    | 0, _ => exact r_0 (x1 := x1) (x2 := x2) (x3 := x3) (x4 := x4) (x5 := x5) hC hR
    | 1, _ => exact r_1 (x1 := x1) (x2 := x2) (x3 := x3) (x4 := x4) (x5 := x5) hC hR
    | 2, _ => exact r_2 (x1 := x1) (x2 := x2) (x3 := x3) (x4 := x4) (x5 := x5) hC hR
    | 3, _ => exact r_3 (x1 := x1) (x2 := x2) (x3 := x3) (x4 := x4) (x5 := x5) hC hR
    | 4, _ => exact r_4 (x1 := x1) (x2 := x2) (x3 := x3) (x4 := x4) (x5 := x5) hC hR
    | 5, _ => exact r_5 (x1 := x1) (x2 := x2) (x3 := x3) (x4 := x4) (x5 := x5) hj hC hR
    | 6, _ => exact r_6 (x1 := x1) (x2 := x2) (x3 := x3) (x4 := x4) (x5 := x5) hC hR
    | 7, _ => exact r_7 (x1 := x1) (x2 := x2) (x3 := x3) (x4 := x4) (x5 := x5) hC hR
    | 8, _ => exact r_8 (x1 := x1) (x2 := x2) (x3 := x3) (x4 := x4) (x5 := x5) hC hR
    | 9, _ => exact r_9 (x1 := x1) (x2 := x2) (x3 := x3) (x4 := x4) (x5 := x5) hC hR
    | 10, _ => exact r_10 (x1 := x1) (x2 := x2) (x3 := x3) (x4 := x4) (x5 := x5) hC hR
    | 11, _ => exact r_11 (x1 := x1) (x2 := x2) (x3 := x3) (x4 := x4) (x5 := x5) hj hC hR
    | 12, _ => exact r_12 (x1 := x1) (x2 := x2) (x3 := x3) (x4 := x4) (x5 := x5) hC hR
    | 13, _ => exact r_13 (x1 := x1) (x2 := x2) (x3 := x3) (x4 := x4) (x5 := x5) hj hC hR
    | 14, _ => exact r_14 (x1 := x1) (x2 := x2) (x3 := x3) (x4 := x4) (x5 := x5) hj hC hR
    | 15, _ => exact r_15 (x1 := x1) (x2 := x2) (x3 := x3) (x4 := x4) (x5 := x5) hC hR
    | 16, _ => exact r_16 (x1 := x1) (x2 := x2) (x3 := x3) (x4 := x4) (x5 := x5) hC hR
    | 17, _ => exact r_17 (x1 := x1) (x2 := x2) (x3 := x3) (x4 := x4) (x5 := x5) hC hR
    | 18, _ => exact r_18 (x1 := x1) (x2 := x2) (x3 := x3) (x4 := x4) (x5 := x5) hC hR
    | 19, _ => exact r_19 (x1 := x1) (x2 := x2) (x3 := x3) (x4 := x4) (x5 := x5) hC hR
    | 20, _ => exact r_20 (x1 := x1) (x2 := x2) (x3 := x3) (x4 := x4) (x5 := x5) hj hC hR
    | 21, _ => exact r_21 (x1 := x1) (x2 := x2) (x3 := x3) (x4 := x4) (x5 := x5) hj hC hR
    | 22, _ => exact r_22 (x1 := x1) (x2 := x2) (x3 := x3) (x4 := x4) (x5 := x5) hC hR
    | 23, _ => exact r_23 (x1 := x1) (x2 := x2) (x3 := x3) (x4 := x4) (x5 := x5) hC hR
    | 24, _ => exact r_24 (x1 := x1) (x2 := x2) (x3 := x3) (x4 := x4) (x5 := x5) hC hR
    | 25, _ => exact r_25 (x1 := x1) (x2 := x2) (x3 := x3) (x4 := x4) (x5 := x5) hC hR
    | 26, _ => exact r_26 (x1 := x1) (x2 := x2) (x3 := x3) (x4 := x4) (x5 := x5) hC hR
    | 27, _ => exact r_27 (x1 := x1) (x2 := x2) (x3 := x3) (x4 := x4) (x5 := x5) hC hR
    | 28, _ => exact r_28 (x1 := x1) (x2 := x2) (x3 := x3) (x4 := x4) (x5 := x5) hC hR
    | 29, _ => exact r_29 (x1 := x1) (x2 := x2) (x3 := x3) (x4 := x4) (x5 := x5) hC hR
    | 30, _ => exact r_30 (x1 := x1) (x2 := x2) (x3 := x3) (x4 := x4) (x5 := x5) hC hR
    | 31, _ => exact r_31 (x1 := x1) (x2 := x2) (x3 := x3) (x4 := x4) (x5 := x5) hC hR
    | 32, _ => exact r_32 (x1 := x1) (x2 := x2) (x3 := x3) (x4 := x4) (x5 := x5) hC hR
    | 33, _ => exact r_33 (x1 := x1) (x2 := x2) (x3 := x3) (x4 := x4) (x5 := x5) hC hR
    | 34, _ => exact r_34 (x1 := x1) (x2 := x2) (x3 := x3) (x4 := x4) (x5 := x5) hC hR
    | 35, _ => exact r_35 (x1 := x1) (x2 := x2) (x3 := x3) (x4 := x4) (x5 := x5) hC hR
    | 36, _ => exact r_36 (x1 := x1) (x2 := x2) (x3 := x3) (x4 := x4) (x5 := x5) hC hR
    | 37, _ => exact r_37 (x1 := x1) (x2 := x2) (x3 := x3) (x4 := x4) (x5 := x5) hC hR
    | 38, _ => exact r_38 (x1 := x1) (x2 := x2) (x3 := x3) (x4 := x4) (x5 := x5) hC hR
    | 39, _ => exact r_39 (x1 := x1) (x2 := x2) (x3 := x3) (x4 := x4) (x5 := x5) hC hR
    | 40, _ => exact r_40 (x1 := x1) (x2 := x2) (x3 := x3) (x4 := x4) (x5 := x5) hC hR
    | 41, _ => exact r_41 (x1 := x1) (x2 := x2) (x3 := x3) (x4 := x4) (x5 := x5) hC hR
    | 42, _ => exact r_42 (x1 := x1) (x2 := x2) (x3 := x3) (x4 := x4) (x5 := x5) hC hR
    | 43, _ => exact r_43 (x1 := x1) (x2 := x2) (x3 := x3) (x4 := x4) (x5 := x5) hC hR
    | 44, _ => exact r_44 (x1 := x1) (x2 := x2) (x3 := x3) (x4 := x4) (x5 := x5) hj hC hR
    | 45, _ => exact r_45 (x1 := x1) (x2 := x2) (x3 := x3) (x4 := x4) (x5 := x5) hj hC hR
    | 46, _ => exact r_46 (x1 := x1) (x2 := x2) (x3 := x3) (x4 := x4) (x5 := x5) hj hC hR
    | 47, _ => exact r_47' (x1 := x1) (x2 := x2) (x3 := x3) (x4 := x4) (x5 := x5) hj hC hR
    | 48, _ => exact r_48 (x1 := x1) (x2 := x2) (x3 := x3) (x4 := x4) (x5 := x5) hj hC hR
    | 49, _ => exact r_49 (x1 := x1) (x2 := x2) (x3 := x3) (x4 := x4) (x5 := x5) hC hR
    | 50, _ => exact r_50 (x1 := x1) (x2 := x2) (x3 := x3) (x4 := x4) (x5 := x5) hC hR
    | 51, _ => exact r_51 (x1 := x1) (x2 := x2) (x3 := x3) (x4 := x4) (x5 := x5) hC hR
    | 52, _ => exact r_52 (x1 := x1) (x2 := x2) (x3 := x3) (x4 := x4) (x5 := x5) hC hR
    | 53, _ => exact r_53 (x1 := x1) (x2 := x2) (x3 := x3) (x4 := x4) (x5 := x5) hj hC hR
    | n + 54, h => exact absurd h (by omega)
  unfold lw_step
  by_cases c : (x0 &&& 63).toInt < 0 ∨ 53 < (x0 &&& 63).toInt
  · rw [if_pos c]
    exact ⟨σ, rfl, hI.more⟩
  · rw [if_neg c]
    refine at_ _ ?_
    have h1 : 0 ≤ (x0 &&& 63).toInt := by omega
    have h2 : (x0 &&& 63).toInt ≤ 53 := by omega
    show (x0 &&& 63).toInt.toNat < 54
    omega
end EVERY

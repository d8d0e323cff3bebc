/-! the fewest closed: the road -/
section CLOSED3
variable {σ σ0 σ1 σ2 τ : Mem} {v : View} {L : Lw} {e s t k j : Nat} {x1 x2 x3 x4 x5 : Int32}
/-- nothing flows -/
theorem flo0 (hs : s < v.n) : Flo v s t (fun _ _ => 0) 0 := ⟨fun _ _ _ _ => rfl, fun _ _ _ _ => (by show (0 : Int) ≤ 1; decide), fun _ _ _ _ _ => rfl, fun p _ _ _ => smI_0 fun _ _ => rfl, smI_0 fun _ _ => rfl⟩
theorem m_finds (W : WF v) (M : SM (σ0 400) v) (hs : s < v.n) (ht : t < v.n) (hst : s ≠ t) {F : Nat → Nat → Int} (hF : Flo v s t F k) (hc : ∀ c, c ≠ 409 → c ≠ 410 → σ c = σ0 c) (hf : FLs σ F) : Fnd σ0 v s t F k (X12_findsWalk (nI s) (nI t) σ) := by
  have h9 := W.n9
  unfold X12_findsWalk
  rw [show (0 : Int32) = nI 0 from rfl]
  refine loop_P (L := fun f (m : Mem) x => X12_findsWalk_2 f (nI s) (nI t) x m) (P := fun x m => (∀ c, c ≠ 410 → m c = σ c) ∧ ∀ i, i < x → m 410 i = -1) (Q := Fnd σ0 v s t F k) (n := 9) (a := σ) (fun f m hP => ?_) (fun f m x hx hP => Or.inr ⟨st m 410 x (-1), ?_, fun c hc => by rw [st_n hc, hP.1 c hc], fun i hi => ?_⟩) (Nat.zero_le _) (FUb (by omega)) ⟨fun _ _ => rfl, fun i h => by omega⟩
  · obtain ⟨p1, p2⟩ := hP
    have hw : WK σ0 (st m 410 s (nI s)) F (pt (fun _ => none) s (some s)) := ⟨fun c g1 g2 => by rw [st_n g2, p1 c g2, hc c g1 g2], fun a b ha hb => by rw [st_n (by decide), p1 409 (by decide)]; exact hf a b ha hb, fun q hq => by
      by_cases c : q = s
      · rw [c, st_at, pt_at]; rfl
      · rw [st_at' c, pt_ne c, p2 q hq]; rfl⟩
    have hcn : cntL v (pt (fun _ => none) s (some s)) = cntL v (fun _ => none) + 1 := cntB_put (f := fun q => ((fun _ => none : Nat → Option Nat) q).isSome) (g := fun q => (pt (fun _ => none) s (some s) q).isSome) hs rfl (by show (pt (fun _ => none) s (some s) s).isSome = true; rw [pt_at]; rfl) (fun i hi => by show (pt (fun _ => none) s (some s) i).isSome = _; rw [pt_ne hi])
    have hl : LBL v s F (pt (fun _ => none) s (some s)) (fun _ => 0) := by
      refine ⟨pt_at, fun x hx lx => ?_, fun x y hx lx => ?_, fun x y hx hxs lx => ?_⟩
      · show 0 < cntL v (pt (fun _ => none) s (some s))
        omega
      · by_cases c : x = s
        · rw [c, pt_at] at lx; cases lx; exact hs
        · rw [pt_ne c] at lx; cases lx
      · rw [pt_ne hxs] at lx; cases lx
    rw [X12_findsWalk_2, if_pos (by decide), au_nI (by rw [ln410]; omega) (by omega), bd_s]
    exact m_30 W M hs ht hst hF 9 FU _ _ _ (by omega) (FUb (by omega)) hw hl
  · rw [X12_findsWalk_2, if_neg (show ¬ (9 : Int32) ≤ nI x from nI_ge (b := 9) (by omega) (by omega)), au_nI (by rw [ln410]; omega) (by omega), bd_s, nI_1]
  · by_cases c : i = x
    · rw [c, st_at]
    · rw [st_at' c, hP.2 i (by omega)]
theorem m_64 (W : WF v) (M : SM (σ0 400) v) (hs : s < v.n) (ht : t < v.n) (hst : s ≠ t) : ∀ (m fuel k : Nat) (σ : Mem) (F : Nat → Nat → Int), k + m = 82 → m < fuel → Flo v s t F k → (∀ c, c ≠ 409 → c ≠ 410 → σ c = σ0 c) → FLs σ F → ∃ σ2, X12_closed_64 fuel (nI s) (nI t) (nI k) σ = some (nI (mA (fun m => v.cut m.testBit) (fun m => m.testBit s && !m.testBit t) 1000 (2 ^ v.n)), σ2) ∧ ∀ c, c ≠ 409 → c ≠ 410 → σ2 c = σ0 c := by
  have h9 := W.n9
  have p9 := pow9_ v.n h9
  intro m
  induction m with
  | zero =>
    intro fuel k σ F h1 h2 hF hc hf
    have a := cut_ge (S := fun q => decide (q = s)) hF hs (by simp) (by simpa using fun z => hst z.symm)
    have b := cut_le (v := v) (S := fun q => decide (q = s)) h9
    omega
  | succ m ih =>
    intro fuel k σ F h1 h2 hF hc hf
    obtain ⟨fuel, rfl⟩ : ∃ z, fuel = z + 1 := ⟨fuel - 1, by omega⟩
    rw [X12_closed_64]
    rcases m_finds W M hs ht hst hF hc hf with ⟨σ2, Lb, e1, e2, e3, e4, e5⟩ | ⟨σ2, F2, e1, e2, e3, e4⟩
    · rw [e1, bd2_s, if_pos rfl]
      refine ⟨σ2, ?_, e2⟩
      have bit : ∀ q, q < v.n → (setN (fun x => (Lb x).isSome) v.n).testBit q = (Lb q).isSome := fun q hq => by rw [setN_bit, decide_eq_true hq, Bool.true_and]
      have bs : (setN (fun x => (Lb x).isSome) v.n).testBit s = true := by
        rw [bit s hs]
        cases h : Lb s with
        | none => exact absurd h e3
        | some z => rfl
      have bt : (setN (fun x => (Lb x).isSome) v.n).testBit t = false := by rw [bit t ht, e4]; rfl
      have hcut : v.cut (setN (fun x => (Lb x).isSome) v.n).testBit = k := cut_eq hF hs bs bt fun p q hp hq sp sq => by
        rw [bit p hp] at sp
        rw [bit q hq] at sq
        refine e5 p q hp hq ?_ ?_
        · intro z; rw [z] at sp; cases sp
        · cases h : Lb q with
          | none => rfl
          | some z => rw [h] at sq; cases sq
      have hmin : mA (fun m => v.cut m.testBit) (fun m => m.testBit s && !m.testBit t) 1000 (2 ^ v.n) = k := by
        have hle := mA_le (h := fun m => v.cut m.testBit) (S := fun m => m.testBit s && !m.testBit t) (a := 1000) (m := 2 ^ v.n) (q := setN (fun x => (Lb x).isSome) v.n) setN_lt (by show ((setN _ _).testBit s && !(setN _ _).testBit t) = true; rw [bs, bt]; rfl)
        rw [hcut] at hle
        rcases mA_ex (h := fun m => v.cut m.testBit) (S := fun m => m.testBit s && !m.testBit t) (a := 1000) (m := 2 ^ v.n) with z | ⟨q, q1, q2, q3⟩
        · rw [z] at hle
          have := cut_le (v := v) (S := (setN (fun x => (Lb x).isSome) v.n).testBit) h9
          omega
        · rw [Bool.and_eq_true, Bool.not_eq_true'] at q2
          have := cut_ge (S := q.testBit) hF hs q2.1 q2.2
          omega
      rw [hmin]
    · rw [e1, bd2_s, if_neg (by decide), nI_1]
      exact ih fuel (k + 1) σ2 F2 (by omega) (by omega) e4 e2 e3
theorem r_27 (hC : Core (1000 * j) σ v L) (hR : Rest (1000 * j) σ v.txt) : ∃ σ3, lw_27 x1 x2 x3 x4 x5 σ = some (true, σ3) ∧ Inv (j + 1) σ3 := by
  obtain ⟨W, R, M, K, KT, Kl⟩ := id hC
  have h9 := W.n9
  have ok : ∀ {ρ τ : Mem}, BO ρ → (∀ c, c ≠ 409 → c ≠ 410 → τ c = ρ c) → Ok ρ τ := fun {ρ τ} hb h => by
    refine ⟨⟨fun c hc => h c (by omega) (by omega), fun i _ => by rw [h 399 (by decide) (by decide)], ?_⟩, h 400 (by decide) (by decide), by rw [h 399 (by decide) (by decide)]⟩
    unfold BO
    rw [h 399 (by decide) (by decide)]
    exact hb
  by_cases c1 : isP v.n x1 = true
  · by_cases c2 : isP v.n x2 = true
    · obtain ⟨s, s1, rfl⟩ := isP_t (by omega) c1
      obtain ⟨t, t1, rfl⟩ := isP_t (by omega) c2
      by_cases hst : s = t
      · subst hst
        refine rqM (Bf := fun τ => X12_closed (nI s) (nI s) τ) (σ1 := σ) hC hR (r := -1) (FrC.refl hR.2.2.2.2) ?_ (fun ρ hρ M1 M2 hb => ?_)
        · unfold L_closed X11_closed X5_fewestClosed
          rw [e_needPane R, if_pos c1, bdx_l, bdx_l, if_pos rfl, bd_s, bdx_l]; rfl
        · unfold X12_closed X12_closed_22
          rw [m_isPane W M1, c1, bd_s, if_neg (show ¬ b2i true = 0 by decide), bd_s, if_neg (show ¬ b2i true = 0 by decide), pu_s, bd_s, st_at, if_pos (by decide), if_pos rfl]
          exact ⟨_, rfl, Ok.refl hb⟩
      · have hne : ¬ nI s = nI t := fun z => hst (nI_inj (by omega) (by omega) z)
        refine rqM (Bf := fun τ => X12_closed (nI s) (nI t) τ) (σ1 := σ) hC hR (r := nI (mA (fun m => v.cut m.testBit) (fun m => m.testBit s && !m.testBit t) 1000 (2 ^ v.n))) (FrC.refl hR.2.2.2.2) ?_ (fun ρ hρ M1 M2 hb => ?_)
        · unfold L_closed X11_closed
          rw [e_needPane R, if_pos c1, bdx_l, e_needPane R, if_pos c2, bdx_l, e_closed W R s1 t1 hst, bd_s, bdx_l]; rfl
        · unfold X12_closed X12_closed_22
          rw [m_isPane W M1, c1, bd_s, if_neg (show ¬ b2i true = 0 by decide), m_isPane W M1, c2, bd_s, if_neg (show ¬ b2i true = 0 by decide), pu_s, bd_s, st_at, if_pos (by decide), if_neg hne, show (0 : Int32) = nI 0 from rfl]
          generalize st ρ 399 0 (nI 0) = τ at M2 hb
          refine loop_P (L := fun f (m : Mem) x => X12_closed_43 f (nI s) (nI t) x m) (P := fun x m => (∀ c, c ≠ 409 → m c = τ c) ∧ ∀ i, i < x → m 409 i = 0) (Q := fun r => ∃ σ2, r = some (nI (mA (fun m => v.cut m.testBit) (fun m => m.testBit s && !m.testBit t) 1000 (2 ^ v.n)), σ2) ∧ Ok τ σ2) (n := 81) (a := τ) (fun f m hP => ?_) (fun f m x hx hP => Or.inr ⟨st m 409 x 0, ?_, fun c hc => by rw [st_n hc, hP.1 c hc], fun i hi => ?_⟩) (Nat.zero_le _) (FUb (by omega)) ⟨fun _ _ => rfl, fun i h => by omega⟩
          · obtain ⟨p1, p2⟩ := hP
            obtain ⟨σ2, a1, a2⟩ := m_64 (σ0 := τ) W M2 s1 t1 hst 82 FU 0 m _ (by omega) (FUb (by omega)) (flo0 s1) (fun c g1 _ => p1 c g1) (fun x y hx hy => by rw [p2 _ (by omega)]; rfl)
            refine ⟨σ2, ?_, ok hb a2⟩
            rw [X12_closed_43, if_pos (by decide)]
            exact a1
          · rw [X12_closed_43, if_neg (show ¬ (81 : Int32) ≤ nI x from nI_ge (b := 81) (by omega) (by omega)), au_nI (by rw [ln409]; omega) (by omega), bd_s, nI_1]
          · by_cases c : i = x
            · rw [c, st_at]
            · rw [st_at' c, hP.2 i (by omega)]
    · rw [Bool.not_eq_true] at c2
      refine rqT (Bf := fun τ => X12_closed x1 x2 τ) hC hR (k := nI 1) (r := nI 0) n0 ?_ ?_
      · unfold L_closed X11_closed
        rw [e_needPane R, if_pos c1, bdx_l, e_needPane R, c2, if_neg (by decide), bdx_r, bdx_r]
        exact hx_1
      · unfold X12_closed X12_closed_17 X12_closed_22
        rw [m_isPane W M, c1, bd_s, if_neg (show ¬ b2i true = 0 by decide), m_isPane W M, c2, bd_s, if_pos (show b2i false = 0 from rfl), pu_s, bd_s, st_at, if_neg (by decide)]; rfl
  · rw [Bool.not_eq_true] at c1
    refine rqT (Bf := fun τ => X12_closed x1 x2 τ) hC hR (k := nI 1) (r := nI 0) n0 ?_ ?_
    · unfold L_closed X11_closed
      rw [e_needPane R, c1, if_neg (by decide), bdx_r, bdx_r]
      exact hx_1
    · unfold X12_closed X12_closed_17 X12_closed_22
      rw [m_isPane W M, c1, bd_s, if_pos (show b2i false = 0 from rfl), pu_s, bd_s, st_at, if_neg (by decide)]; rfl
end CLOSED3

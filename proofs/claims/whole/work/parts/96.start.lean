/-! a new object -/
noncomputable def v0 : View := View.ofT (0, 0, 0, 0, 0, 0, false, 1, fun _ => 0, fun _ => 0, fun _ => none, fun _ => false, fun _ _ => false, fun _ => 0, fun _ => 0, fun _ => 0, fun _ => none, fun _ _ => 0, [], fun i => if i = 1 then -1 else 0)
section START
theorem v0_s : v0.n = 0 ∧ v0.k = 0 ∧ v0.texts = 0 ∧ v0.hour = 0 ∧ v0.night = 0 ∧ v0.fog = 0 ∧ v0.mist = false ∧ v0.seed = 1 ∧ v0.log = [] ∧ v0.txt = (fun i => if i = 1 then -1 else 0) ∧ (∀ p, v0.burn p = false) := by
  unfold v0 View.n View.k View.texts View.hour View.night View.fog View.mist View.seed View.log View.txt View.burn
  rw [View.tup_of]
  exact ⟨rfl, rfl, rfl, rfl, rfl, rfl, rfl, rfl, rfl, rfl, fun _ => rfl⟩
theorem v0_W : WF v0 := by
  obtain ⟨s1, s2, s3, s4, s5, s6, s7, s8, s9, s10, s11⟩ := v0_s
  unfold WF
  rw [s1, s2, s3, s4, s5, s6, s9]
  have z : ∀ {p : Nat} {Q : Prop}, p < 0 → Q := fun h => absurd h (by omega)
  exact ⟨by omega, by omega, by omega, by omega, by omega, by omega, fun _ h => z h, fun _ h => z h, fun _ _ h => z h, fun _ _ _ h => z h, fun _ h => z h, fun _ _ h => z h, fun _ h => z h, fun _ h => z h, fun _ h => z h, fun _ h => z h, fun _ _ h => z h, fun _ _ h => z h, fun _ h => z h, by decide, fun r h => by cases h⟩
theorem z1_at {c i : Nat} (h : c ≠ 400) : z1 c i = zr (kd c) i := by unfold z1; rw [st_n h, st_n h]; rfl
theorem v0_R : SC z1 9 v0 0 := by
  obtain ⟨s1, s2, s3, s4, s5, s6, s7, s8, s9, s10, s11⟩ := v0_s
  have z : ∀ {p : Nat} {Q : Prop}, p < 0 → Q := fun h => absurd h (by omega)
  have h : ∀ i, z1 9 i = if i = 7 then 1 else 0 := fun i => by rw [z1_at (by decide), kd9]; rfl
  unfold SC
  rw [s1, s2, s3, s4, s5, s6, s7, s8, s9]
  exact ⟨h 0, h 1, h 2, h 3, h 4, h 5, h 6, h 7, h 8, fun _ h => z h, fun _ h => z h, fun _ h => z h, fun _ h => z h, fun _ h => z h, fun _ h => z h, fun _ h => z h, fun _ h => z h, fun _ _ h => z h, ⟨0, Nat.le_refl _, h 19, rfl, fun a r hr => by cases hr⟩⟩
theorem v0_M : SM (z1 400) v0 := by
  obtain ⟨s1, s2, s3, s4, s5, s6, s7, s8, s9, s10, s11⟩ := v0_s
  have z : ∀ {p : Nat} {Q : Prop}, p < 0 → Q := fun h => absurd h (by omega)
  have h : ∀ i, z1 400 i = if i = 10 then 1 else if i = 1 then -1 else 0 := fun i => by
    unfold z1
    rw [st_s, st_s]
    show upd (upd (zr (kd 400)) 1 (-1)) 10 1 i = _
    rw [show kd 400 = 0 by decide +kernel]; rfl
  unfold SM
  rw [s1, s2, s3, s4, s5, s6, s7, s8, s9, s10]
  refine ⟨h 0, h 3, h 4, h 5, h 6, h 7, h 8, h 9, h 10, fun _ h => z h, fun _ h => z h, fun _ h => z h, fun _ h => z h, fun _ _ h => z h, fun _ h => z h, fun _ h => z h, fun _ h => z h, fun _ h => z h, fun _ _ h => z h, fun a r hr => (by cases hr), fun i hi => ?_⟩
  rw [h i]
  rw [if_neg (by omega)]
theorem h0 : Inv 0 z1 := by
  obtain ⟨s1, s2, s3, s4, s5, s6, s7, s8, s9, s10, s11⟩ := v0_s
  have h72 : ∀ i, z1 72 i = if i = 0 then -1 else 0 := fun i => by rw [z1_at (by decide), show kd 72 = 3 by decide +kernel]; rfl
  have h1 : ∀ i, z1 1 i = if i = 6 then -1 else 0 := fun i => by rw [z1_at (by decide), show kd 1 = 4 by decide +kernel]; rfl
  have h399 : ∀ i, z1 399 i = if i = 12 then -1 else 0 := fun i => by rw [z1_at (by decide), show kd 399 = 10 by decide +kernel]; rfl
  have h111 : ∀ i, i = 1 ∨ i = 2 → z1 111 i = 0 := fun i hi => by rw [z1_at (by decide)]; rcases hi with rfl | rfl <;> decide +kernel
  refine ⟨v0, [], ⟨v0_W, v0_R, v0_M, ⟨Or.inr ⟨h72 0, rfl⟩, Nat.zero_le _, h72 5, Nat.zero_le _, fun i l hl => by cases hl⟩, ⟨fun i hi => ?_, Or.inr ⟨rfl, Or.inr ?_⟩⟩, ?_⟩, ⟨⟨false, h399 15⟩, ⟨false, h399 17⟩⟩, ⟨⟨0, Nat.zero_le _, h1 1, h399 8, fun k hk => absurd hk (by omega)⟩, (h1 6).trans (h399 12).symm⟩, ⟨0, 0, by omega, by omega, h111 1 (Or.inl rfl), h111 2 (Or.inr rfl), h399 6, fun i hi => absurd hi (by omega)⟩, ⟨false, ?_, h399 3, fun h => (by cases h), fun i _ => ?_⟩, fun i hi => ?_, ?_⟩
  · rw [s10]
    dsimp only
    rw [if_neg (by omega)]
  · rw [s10]; rfl
  · rw [s10]; exact h72 0
  · rw [z1_at (by decide)]; decide +kernel
  · rw [z1_at (by decide), show kd 401 = 0 by decide +kernel]; rfl
  · rw [z1_at (by decide)]
    have : ∀ i, i < 9 → zr (kd 391) i = 0 := by decide +kernel
    exact this i hi
  · rw [z1_at (by decide)]; decide +kernel
end START

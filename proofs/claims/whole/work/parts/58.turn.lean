/-! the hour turns; a number is drawn -/
noncomputable def View.turn (v : View) : View := if v.hour + 1 = 24 then ((v.w_hour (0)).w_night (min 9999 (v.night + 1))) else (v.w_hour (v.hour + 1))
theorem WF.turn {v : View} (W : WF v) : WF v.turn := by
  have h := W.hour
  have h2 := W.night
  unfold View.turn
  split
  · exact (by
    unfold WF
    try simp only [VR, View.turn]
    exact ⟨W.n9, W.k6, W.texts, by show 0 < 24; omega, by show min 9999 (v.night + 1) ≤ 9999; omega, W.fog, W.oil, W.dark, W.own, W.one, W.burn, W.sym, W.irr, W.pl, W.tp, W.lt, W.hd, W.like, W.self, W.log, W.rows⟩)
  · exact (by
    unfold WF
    try simp only [VR, View.turn]
    exact ⟨W.n9, W.k6, W.texts, by show v.hour + 1 < 24; omega, W.night, W.fog, W.oil, W.dark, W.own, W.one, W.burn, W.sym, W.irr, W.pl, W.tp, W.lt, W.hd, W.like, W.self, W.log, W.rows⟩)
theorem e_turnHour {σ : Mem} {B : Nat} {v : View} {e : Nat} (W : WF v) (R : SC σ B v e) : ∃ σ', X7_turnHour B σ = some σ' ∧ SC σ' B v.turn e ∧ ∀ c, c < B ∨ B + 21 ≤ c → σ' c = σ c := by
  have h := W.hour
  have h2 := W.night
  unfold X7_turnHour View.turn pu
  have R1 := R.s_hour (v.hour + 1)
  rw [bd_s, R.hour, nI_1, st_at]
  by_cases h1 : v.hour + 1 = 24
  · rw [if_neg (show ¬ nI (v.hour + 1) ≤ 23 from nI_ge (b := v.hour + 1) (a := 23) (by omega) (by omega)), if_pos h1, bd_s, bd_s]
    have R2 := R1.s_hour 0
    have e1 := R2.night
    simp only [VR] at e1
    simp only [View.ww_hour] at R2
    have e1 : st (st σ B 3 (nI (v.hour + 1))) B 3 0 B 4 = nI v.night := e1
    rw [e1, nI_1, show (9999 : Int32) = nI 9999 from rfl, mn999 (by omega) (by omega)]
    exact ⟨_, rfl, by have := R2.s_night (min 9999 (v.night + 1)); exact this, fun c hc => by rw [st_n (by omega), st_n (by omega), st_n (by omega)]⟩
  · rw [if_pos (show nI (v.hour + 1) ≤ 23 from nI_le (b := 23) (by omega) (by omega)), if_neg h1]
    exact ⟨_, rfl, R1, fun c hc => by rw [st_n (by omega)]⟩
def drawn (s : Int32) : Int32 := 1103515245 * s + 12345
def rnd (s : Int32) : Int32 := (s >>> ((16 : Int32) &&& 31)) &&& (32767 : Int32)
theorem lsb_32767 : ∀ i, i < 32 → (32767 : Int32).toBitVec.getLsbD i = decide (i < 15) := by decide +kernel
theorem rnd_u (x : Int32) : ((x.toUInt32 >>> ((16 : Int32).toUInt32 &&& Int32.toUInt32 31)).toInt32) &&& (32767 : Int32) = rnd x := by
  apply Int32.toBitVec_inj.mp
  apply BitVec.eq_of_getLsbD_eq
  intro i hi
  unfold rnd
  rw [Int32.toBitVec_and, Int32.toBitVec_and, BitVec.getLsbD_and, BitVec.getLsbD_and, lsb_32767 i hi]
  by_cases h : i < 15
  · rw [decide_eq_true h, Bool.and_true, Bool.and_true]
    have h1 : ((16 : Int32).toUInt32 &&& Int32.toUInt32 31) = 16 := by decide
    have h2 : ((16 : Int32) &&& 31) = 16 := by decide
    rw [h1, h2]
    have a1 : ((x.toUInt32 >>> (16 : UInt32)).toInt32).toBitVec = x.toBitVec >>> 16 := by
      show (x.toUInt32 >>> (16 : UInt32)).toBitVec = _
      rw [UInt32.toBitVec_shiftRight]
      rfl
    have a2 : (x >>> (16 : Int32)).toBitVec = x.toBitVec.sshiftRight 16 := by
      rw [Int32.toBitVec_shiftRight]
      rfl
    rw [a1, a2, BitVec.getLsbD_ushiftRight, BitVec.getLsbD_sshiftRight]
    simp [hi, show 16 + i < 32 by omega]
  · rw [decide_eq_false h, Bool.and_false, Bool.and_false]
theorem e_draw {σ : Mem} {B : Nat} {v : View} {e : Nat} (R : SC σ B v e) : ∃ σ', X7_draw B σ = some (rnd (drawn v.seed), σ') ∧ SC σ' B (v.w_seed (drawn v.seed)) e ∧ ∀ c, c < B ∨ B + 21 ≤ c → σ' c = σ c := by
  unfold X7_draw pu
  rw [bd_s, st_at, R.seed, show v.seed * 1103515245 + 12345 = drawn v.seed by unfold drawn; rw [Int32.mul_comm]]
  exact ⟨_, rfl, R.s_seed _, fun c hc => by rw [st_n (by omega)]⟩
theorem m_draw {σ : Mem} {v : View} (W : WF v) (M : SM (σ 400) v) : ∃ σ', X12_draw 100 σ = some (rnd (drawn v.seed) - rnd (drawn v.seed) / 100 * 100, σ') ∧ SM (σ' 400) (v.w_seed (drawn v.seed)) ∧ ∀ c, c ≠ 400 → σ' c = σ c := by
  unfold X12_draw
  rw [show (10 : Int32) = nI 10 from rfl, m_at (by omega), bd_s, M.seed, m_set (by omega), bd_s, m_at (by omega), bd_s, st_at, show (1103515245 : Int32) * v.seed + 12345 = drawn v.seed from rfl, rnd_u, show gz (100 : Int32) = some () from rfl, bd_s]
  exact ⟨_, rfl, by rw [st_s]; exact M.s_seed W.n9 W.k6 W.log _, fun c hc => by rw [st_n hc]⟩

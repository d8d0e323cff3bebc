/-! a pane's hour -/
noncomputable def View.burnt (v : View) (p : Nat) : View :=
  if v.burn p = true then
    if v.oil p = 1 then (((v.w_oil (fun q => if q = p then 0 else v.oil q)).w_burn (fun q => if q = p then false else v.burn q)) : View).write 2 p none
    else (v.w_oil (fun q => if q = p then v.oil p - 1 else v.oil q))
  else v
noncomputable def View.darker (v : View) (p : Nat) : View := if v.burn p = true then v else (v.w_dark (fun q => if q = p then min 99 (v.dark p + 1) else v.dark q))
noncomputable def View.burns (v : View) (p : Nat) : View := (v.burnt p).darker p
section BURN
variable {σ : Mem} {B : Nat} {v : View} {e : Nat}
theorem SC.mono (R : SC σ B v e) {e' : Nat} (h : e ≤ e') : SC σ B v e' :=
  (by
    unfold SC
    try simp only [VR, View.write, View.burnt, View.darker]
    exact ⟨R.n, R.k, R.texts, R.hour, R.night, R.fog, R.mist, R.seed, R.burn, R.oil, R.own, R.dark, R.way, R.pl, R.tp, R.hd, R.lt, R.like, 
      by
      obtain ⟨c, h1, h2⟩ := R.log
      exact ⟨c, by omega, h2⟩⟩)
theorem WF.burnt1 (W : WF v) {p : Nat} : WF (((v.w_oil (fun q => if q = p then 0 else v.oil q)).w_burn (fun q => if q = p then false else v.burn q)) : View) :=
  (by
    unfold WF
    try simp only [VR, View.write, View.burnt, View.darker]
    exact ⟨W.n9, W.k6, W.texts, W.hour, W.night, W.fog, 
      fun q hq => by
      show (if q = p then 0 else v.oil q) ≤ 99
      split
      · omega
      · exact W.oil q hq, W.dark, W.own, W.one, 
      fun q hq h => by
      have h : (if q = p then false else v.burn q) = true := h
      show 0 < (if q = p then 0 else v.oil q)
      split at h
      · cases h
      · rename_i hh; rw [if_neg hh]; exact W.burn q hq h, W.sym, W.irr, W.pl, W.tp, W.lt, W.hd, W.like, W.self, W.log, W.rows⟩)
theorem WF.burnt2 (W : WF v) {p : Nat} (h1 : 1 < v.oil p) : WF ((v.w_oil (fun q => if q = p then v.oil p - 1 else v.oil q)) : View) :=
  (by
    unfold WF
    try simp only [VR, View.write, View.burnt, View.darker]
    exact ⟨W.n9, W.k6, W.texts, W.hour, W.night, W.fog, 
      fun q hq => by
      show (if q = p then v.oil p - 1 else v.oil q) ≤ 99
      by_cases h : q = p
      · subst h; rw [if_pos rfl]; have := W.oil q hq; omega
      · rw [if_neg h]; exact W.oil q hq, W.dark, W.own, W.one, 
      fun q hq h => by
      show 0 < (if q = p then v.oil p - 1 else v.oil q)
      split
      · omega
      · exact W.burn q hq h, W.sym, W.irr, W.pl, W.tp, W.lt, W.hd, W.like, W.self, W.log, W.rows⟩)
theorem WF.burnt (W : WF v) {p : Nat} (hp : p < v.n) : WF (v.burnt p) := by
  have h9 := W.n9
  unfold View.burnt
  split
  · rename_i hb
    have h0 := W.burn p hp hb
    split
    · exact (W.burnt1 (p := p)).write (by omega) (by omega) (fun w h => nomatch h)
    · exact W.burnt2 (by omega)
  · exact W
theorem burnt_n {p : Nat} : (v.burnt p).n = v.n := by
  unfold View.burnt
  split
  · split <;> simp only [VR, View.write]
  · rfl
theorem WF.darker (W : WF v) {p : Nat} : WF (v.darker p) := by
  unfold View.darker
  split
  · exact W
  · exact (by
    unfold WF
    try simp only [VR, View.write, View.burnt, View.darker]
    exact ⟨W.n9, W.k6, W.texts, W.hour, W.night, W.fog, W.oil, 
      fun q hq => by
        show (if q = p then min 99 (v.dark p + 1) else v.dark q) ≤ 99
        split
        · omega
        · exact W.dark q hq, W.own, W.one, W.burn, W.sym, W.irr, W.pl, W.tp, W.lt, W.hd, W.like, W.self, W.log, W.rows⟩)
theorem WF.burns (W : WF v) {p : Nat} (hp : p < v.n) : WF (v.burns p) := (W.burnt hp).darker
theorem e_darker (hB : kd B = 2) (W : WF v) (R : SC σ B v e) {p : Nat} (hp : p < v.n) : ∃ σ', X7_burnDown_50 B (nI p) σ = some σ' ∧ SC σ' B (v.darker p) e ∧ ∀ c, c < B ∨ B + 21 ≤ c → σ' c = σ c := by
  have h9 := W.n9
  have hd := W.dark p hp
  obtain ⟨l2, l4, l6, -⟩ := ln_str hB
  unfold X7_burnDown_50 View.darker
  rw [e_isBurning W R hp, bd_s]
  cases hb : v.burn p with
  | true => exact ⟨σ, rfl, R, fun c _ => rfl⟩
  | false =>
    rw [if_pos (show b2i false = 0 from rfl), g_dark hB W R hp, bd_s, nI_1, show (99 : Int32) = nI 99 from rfl, mn999 (by omega) (by omega), e_set (by rw [l6]; omega) (by rw [l6]; decide), bd_s]
    exact ⟨_, rfl, R.s_dark p _, fun c hc => by rw [st_n (by omega)]⟩
theorem e_burnDown (hB : kd B = 2) (W : WF v) (R : SC σ B v e) (he : e < 2 ^ 30) {p : Nat} (hp : p < v.n) : ∃ σ', X7_burnDown B (nI p) σ = some σ' ∧ SC σ' B (v.burns p) (e + 1) ∧ ∀ c, c < B ∨ B + 21 ≤ c → σ' c = σ c := by
  have h9 := W.n9
  have ho := W.oil p hp
  obtain ⟨l2, l4, l6, -⟩ := ln_str hB
  unfold X7_burnDown View.burns
  rw [e_isBurning W R hp, bd_s]
  have Wb := W.burnt hp
  unfold View.burnt at Wb ⊢
  cases hbn : v.burn p with
  | false =>
    rw [if_pos (show b2i false = 0 from rfl), if_neg (by decide)]
    obtain ⟨τ, t1, t2, t3⟩ := e_darker hB W R hp
    exact ⟨τ, t1, t2.mono (by omega), t3⟩
  | true =>
    have h0 := W.burn p hp hbn
    rw [hbn] at Wb
    rw [if_neg (show ¬ b2i true = 0 by decide), if_pos rfl, e_add (by rw [l2]; omega) (by rw [l2]; decide), bd_s, R.oil p hp, nI_m1p h0]
    rw [if_pos rfl] at Wb
    have R1 := R.s_oil p (v.oil p - 1)
    rw [e_get (by rw [l2]; omega) (by rw [l2]; decide), bd_s, st_at]
    by_cases h1 : v.oil p = 1
    · rw [if_pos h1] at Wb ⊢
      rw [h1, if_neg (by decide), e_bit, bd_s]
      rw [h1] at R1
      unfold pu
      rw [bd_s, show st σ (B + 1 + 1) p (nI (1 - 1)) B 8 = mkB v.burn v.n from by have := R1.burn; simpa only [VR] using this]
      have hx : ∀ x : Int32, x ^^^ -1 = ~~~x := fun x => ext32 fun i hi => by rw [hb_xor hi, hb_not hi, hb_m1 hi]; simp
      rw [hx, mk_and_not (by omega)]
      have hm : mkB (fun i => v.burn i && !hb (bitv p) i) v.n = mkB (fun q => if q = p then false else v.burn q) v.n := mk_congr fun i hi => by
        rw [hb_bit (by omega) (by omega)]
        by_cases h : i = p <;> simp [h]
      rw [hm]
      have R2 := R1.s_burn (fun q => if q = p then false else v.burn q)
      simp only [VR] at R2
      obtain ⟨τ, t1, t2, t3⟩ := e_write hB W.burnt1 R2 he (kd := 2) (pn := p) (wk := none)
      rw [show (-1 : Int32) = oI none from rfl, show (2 : Int32) = nI 2 from rfl, t1, bd_s]
      obtain ⟨τ', s1, s2, s3⟩ := e_darker hB Wb t2 (p := p) (by simp only [VR, View.write]; exact hp)
      exact ⟨τ', s1, s2, fun c hc => by rw [s3 c hc, t3 c (by omega) (by omega), st_n (by omega), st_n (by omega)]⟩
    · rw [if_neg h1] at Wb ⊢
      rw [if_pos (show (0 : Int32) < nI (v.oil p - 1) from nI_lt (a := 0) (by omega) (by omega))]
      obtain ⟨τ', s1, s2, s3⟩ := e_darker hB Wb R1 (p := p) (by simp only [VR]; exact hp)
      exact ⟨τ', s1, s2.mono (by omega), fun c hc => by rw [s3 c hc, st_n (by omega)]⟩
theorem m_darker (W : WF v) (M : SM (σ 400) v) {p : Nat} (hp : p < v.n) : ∃ σ', X12_burns_51 (nI p) σ = some σ' ∧ SM (σ' 400) (v.darker p) ∧ ∀ c, c ≠ 400 → σ' c = σ c := by
  have h9 := W.n9
  have hd := W.dark p hp
  unfold X12_burns_51 View.darker
  rw [show (1 : Int32) = nI 1 from rfl, m_of W hp (by omega), bd_s, M.burn p hp]
  cases hb : v.burn p with
  | true => exact ⟨σ, rfl, M, fun c _ => rfl⟩
  | false =>
    rw [if_pos (show b2i false = 0 from rfl), show (3 : Int32) = nI 3 from rfl, m_of W hp (by omega), bd_s, M.dark p hp, nI_add, show (99 : Int32) = nI 99 from rfl, m_lesser (by omega) (by omega), bd_s, m_lays W hp (by omega), bd_s]
    exact ⟨_, rfl, by rw [st_s]; exact M.s_dark W.n9 W.k6 W.log hp _, fun c hc => by rw [st_n hc]⟩
theorem m_burns (W : WF v) (M : SM (σ 400) v) {p : Nat} (hp : p < v.n) : ∃ σ', X12_burns (nI p) σ = some σ' ∧ SM (σ' 400) (v.burns p) ∧ ∀ c, c ≠ 400 → σ' c = σ c := by
  have h9 := W.n9
  have ho := W.oil p hp
  unfold X12_burns View.burns
  rw [show (X12_of σ (nI p) (1 : Int32)) = some (σ 400 (11 + 4 * p + 1)) from m_of W hp (k := 1) (by omega), bd_s, M.burn p hp]
  have Wb := W.burnt hp
  unfold View.burnt at Wb ⊢
  cases hb : v.burn p with
  | false =>
    rw [if_neg (show ¬ b2i false = 1 by decide), if_neg (by decide)]
    exact m_darker W M hp
  | true =>
    have h0 := W.burn p hp hb
    rw [hb, if_pos rfl] at Wb
    rw [if_pos (show b2i true = 1 from rfl), if_pos rfl, show X12_of σ (nI p) (0 : Int32) = some (σ 400 (11 + 4 * p + 0)) from m_of W hp (k := 0) (by omega), bd_s, show σ 400 (11 + 4 * p + 0) = nI (v.oil p) from M.oil p hp, nI_sub1 h0, show (0 : Int32) = nI 0 from rfl, m_greater (by omega) (by omega), bd_s, Nat.max_eq_right (by omega), m_lays W hp (k := 0) (by omega), bd_s]
    have M1 := M.s_oil W.n9 W.k6 W.log hp (v.oil p - 1)
    rw [show ∀ τ : Mem, X12_of τ (nI p) (nI 0) = some (τ 400 (11 + 4 * p + 0)) from fun τ => m_of W hp (k := 0) (by omega), bd_s, st_at]
    by_cases h1 : v.oil p = 1
    · rw [if_pos h1] at Wb ⊢
      rw [h1] at M1 ⊢
      rw [if_pos (show nI (1 - 1) = nI 0 from rfl), show ∀ τ : Mem, X12_lays (nI p) (1 : Int32) (nI 0) τ = some (st τ 400 (11 + 4 * p + 1) (b2i false)) from fun τ => m_lays W hp (k := 1) (by omega), bd_s]
      have W1 : WF (((v.w_oil (fun q => if q = p then 0 else v.oil q)).w_burn (fun q => if q = p then false else v.burn q)) : View) := W.burnt1
      have hM : SM (st (st σ 400 (11 + 4 * p + 0) (nI (1 - 1))) 400 (11 + 4 * p + 1) (b2i false) 400) (((v.w_oil (fun q => if q = p then 0 else v.oil q)).w_burn (fun q => if q = p then false else v.burn q)) : View) := by
        have M2 : SM (upd (σ 400) (11 + 4 * p) (nI 0)) (v.w_oil (fun q => if q = p then 0 else v.oil q)) := M1
        have := SM.s_burn M2 (by simp only [VR]; exact h9) (by simp only [VR]; exact W.k6) (by simp only [VR]; exact W.log) (p := p) (by simp only [VR]; exact hp) false
        simp only [VR] at this
        rw [st_s, st_s]
        exact this
      obtain ⟨τ, t1, t2, t3⟩ := m_logs W1 hM (kd := 2) (pn := p) (wk := none)
      rw [show (-1 : Int32) = oI none from rfl, show (2 : Int32) = nI 2 from rfl, t1, bd_s]
      obtain ⟨τ', s1, s2, s3⟩ := m_darker Wb t2 (p := p) (by simp only [VR, View.write]; exact hp)
      exact ⟨τ', s1, s2, fun c hc => by rw [s3 c hc, t3 c hc, st_n hc, st_n hc]⟩
    · rw [if_neg h1] at Wb ⊢
      rw [if_neg (show ¬ nI (v.oil p - 1) = nI 0 from nI_ne0 (by omega) (by omega))]
      obtain ⟨τ', s1, s2, s3⟩ := m_darker Wb (σ := st σ 400 (11 + 4 * p + 0) (nI (v.oil p - 1))) (by rw [st_s]; exact M1) (p := p) (by simp only [VR]; exact hp)
      exact ⟨τ', s1, s2, fun c hc => by rw [s3 c hc, st_n hc]⟩
end BURN

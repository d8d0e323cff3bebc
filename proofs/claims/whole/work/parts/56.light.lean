/-! a lamp is lit; a pane's hour; the hour turns; a number is drawn -/
noncomputable def View.kindle (v : View) (w p : Nat) : View := (((((v.w_burn (fun q => if q = p then true else v.burn q)).w_dark (fun q => if q = p then 0 else v.dark q)).w_tp (fun x => if x = w then v.tp w - 1 else v.tp x)).w_lt (fun x => if x = w then min 999 (v.lt w + 1) else v.lt x)).w_like (match v.own p with
    | none => v.like
    | some o => fun a b => if a = o ∧ b = w then min 9 (v.like o w + 1) else v.like a b))
section LIGHT
variable {σ : Mem} {B : Nat} {v : View} {e : Nat}
theorem WF.kindle (W : WF v) {w p : Nat} (hw : w < v.k) (hp : p < v.n) (ho : 0 < v.oil p) (hown : v.own p ≠ some w) : WF (v.kindle w p) :=
  (by
    unfold WF
    try simp only [VR, View.write, View.kindle]
    exact ⟨W.n9, W.k6, W.texts, W.hour, W.night, W.fog, W.oil, 
      fun q hq => by
      split
      · omega
      · exact W.dark q hq, W.own, W.one, 
      fun q hq h => by
      split at h
      · rename_i e; rw [e]; exact ho
      · exact W.burn q hq h, W.sym, W.irr, W.pl, 
      fun x hx => by
      have := W.tp w hw
      split
      · omega
      · exact W.tp x hx, 
      fun x hx => by
      split
      · omega
      · exact W.lt x hx, W.hd, 
      fun a b ha hb => by
      cases v.own p with
      | none => exact W.like a b ha hb
      | some o =>
        simp only
        split
        · omega
        · exact W.like a b ha hb, 
      fun a ha => by
      cases hq : v.own p with
      | none => exact W.self a ha
      | some o =>
        simp only
        rw [if_neg (by rintro ⟨rfl, rfl⟩; exact hown hq)]
        exact W.self a ha, W.log, W.rows⟩)
theorem mn999 {a b : Nat} (ha : a < 2 ^ 31) (hb : b < 2 ^ 31) : (if nI a < nI b then nI a else nI b) = nI (min a b) := by
  by_cases h : a < b
  · rw [if_pos (nI_lt h hb), Nat.min_eq_left (by omega)]
  · rw [if_neg (nI_nlt (by omega) ha), Nat.min_eq_right (by omega)]
theorem e_add {i : Nat} {x : Int32} (h : i < ln (B + 1)) (h2 : ln (B + 1) < 2 ^ 31) : X6_add B (nI i) x σ = some (st σ (B + 1) i (σ (B + 1) i + x)) := by
  unfold X6_add
  rw [if_neg (nI_pos (by omega)), if_neg (nI_ge h h2), ag_nI h (by omega), bd_s, au_nI h (by omega), bd_s]
theorem nI_m1p {n : Nat} (h : 0 < n) : nI n + -1 = nI (n - 1) := by
  obtain ⟨k, rfl⟩ : ∃ k, n = k + 1 := ⟨n - 1, by omega⟩
  exact nI_dec k
theorem WF.kin4 (W : WF v) {w p : Nat} (hp : p < v.n) (hoil : 0 < v.oil p) : WF ((((v.w_burn ((fun q => if q = p then true else v.burn q))).w_dark ((fun q => if q = p then 0 else v.dark q))).w_tp ((fun q => if q = w then v.tp w - 1 else v.tp q))).w_lt ((fun q => if q = w then min 999 (v.lt w + 1) else v.lt q))) :=
  (by
    unfold WF
    try simp only [VR, View.write, View.kindle]
    exact ⟨W.n9, W.k6, W.texts, W.hour, W.night, W.fog, W.oil, 
      fun q hq => by
      split
      · omega
      · exact W.dark q hq, W.own, W.one, 
      fun q hq h => by
      split at h
      · rename_i e; rw [e]; exact hoil
      · exact W.burn q hq h, W.sym, W.irr, W.pl, 
      fun x hx => by
      split
      · rename_i e; rw [e] at hx; have := W.tp w hx; omega
      · exact W.tp x hx, 
      fun x hx => by
      split
      · omega
      · exact W.lt x hx, W.hd, W.like, W.self, W.log, W.rows⟩)
theorem e_light (hB : kd B = 2) (W : WF v) (R : SC σ B v e) (he : e < 2 ^ 30) {w p kd : Nat} (hw : w < v.k) (hp : p < v.n) (ht : 0 < v.tp w) (hoil : 0 < v.oil p) (hown : v.own p ≠ some w) (W2 : WF (v.kindle w p)) : ∃ σ', X7_light B (nI w) (nI p) (nI kd) σ = some σ' ∧ SC σ' B ((v.kindle w p).write kd p (some w)) (e + 1) ∧ ∀ c, c < B ∨ B + 21 ≤ c → σ' c = σ c := by
  have h9 := W.n9
  have h6 := W.k6
  have hlt := W.lt w hw
  obtain ⟨l2, l4, l6, l8, l10, l12, l14, l16, l18, l20⟩ := ln_str hB
  unfold X7_light
  rw [e_bit, bd_s]
  unfold pu
  rw [bd_s, R.burn, mk_bit (n := v.n) (by omega) hp, mk_or (by omega)]
  have R1 := R.s_burn (fun q => v.burn q || decide (q = p))
  rw [show (0 : Int32) = nI 0 from rfl, e_set (by rw [l6]; omega) (by rw [l6]; decide), bd_s]
  have R2 := R1.s_dark p 0
  rw [e_add (by rw [l12]; omega) (by rw [l12]; decide), bd_s]
  have e1 := R2.tp w (by simp only [VR]; exact hw)
  simp only [VR] at e1
  have e1 : st (st σ B 8 (mkB (fun q => v.burn q || decide (q = p)) v.n)) (B + 5 + 1) p (nI 0) (B + 11 + 1) w = nI (v.tp w) := e1
  rw [e1, nI_m1p ht]
  have R3 := R2.s_tp w (v.tp w - 1)
  simp only [VR] at R3
  rw [e_get (by rw [l16]; omega) (by rw [l16]; decide), bd_s]
  have e2 := R3.lt w (by simp only [VR]; exact hw)
  simp only [VR] at e2
  have e2 : st (st (st σ B 8 (mkB (fun q => v.burn q || decide (q = p)) v.n)) (B + 5 + 1) p (nI 0)) (B + 11 + 1) w (nI (v.tp w - 1)) (B + 15 + 1) w = nI (v.lt w) := e2
  rw [e2, nI_1, show (999 : Int32) = nI 999 from rfl, mn999 (by omega) (by omega), e_set (by rw [l16]; omega) (by rw [l16]; decide), bd_s]
  have R4 := R3.s_lt w (min 999 (v.lt w + 1))
  simp only [VR] at R4
  generalize hs : st (st (st (st σ B 8 (mkB (fun q => v.burn q || decide (q = p)) v.n)) (B + 5 + 1) p (nI 0)) (B + 11 + 1) w (nI (v.tp w - 1))) (B + 15 + 1) w (nI (min 999 (v.lt w + 1))) = τ
  have hτ : ∀ c, c < B ∨ B + 21 ≤ c → τ c = σ c := fun c hc => by rw [← hs, st_n (by omega), st_n (by omega), st_n (by omega), st_n (by omega)]
  have R4 : SC τ B ((((v.w_burn ((fun q => v.burn q || decide (q = p)))).w_dark ((fun q => if q = p then 0 else v.dark q))).w_tp ((fun q => if q = w then v.tp w - 1 else v.tp q))).w_lt ((fun q => if q = w then min 999 (v.lt w + 1) else v.lt q))) e := by rw [← hs]; exact R4
  have hb : (fun q => v.burn q || decide (q = p)) = fun q => if q = p then true else v.burn q := by
    funext q
    by_cases h : q = p <;> simp [h]
  rw [hb] at R4
  rw [e_get (by rw [l4]; omega) (by rw [l4]; decide), bd_s]
  have e3 := R4.own p (by simp only [VR]; exact hp)
  simp only [VR] at e3
  have e3 : τ (B + 3 + 1) p = oI (v.own p) := e3
  rw [e3]
  cases ho : v.own p with
  | none =>
    rw [if_pos (show oI none = -1 from rfl)]
    unfold X7_light_92
    have hk : v.kindle w p = ((((v.w_burn ((fun q => if q = p then true else v.burn q))).w_dark ((fun q => if q = p then 0 else v.dark q))).w_tp ((fun q => if q = w then v.tp w - 1 else v.tp q))).w_lt ((fun q => if q = w then min 999 (v.lt w + 1) else v.lt q))) := by
      unfold View.kindle; simp only [ho]; exact View.id_like (by simp only [VR])
    rw [← hk] at R4
    obtain ⟨τ', t1, t2, t3⟩ := e_write hB W2 R4 he (kd := kd) (pn := p) (wk := some w)
    rw [show nI w = oI (some w) from rfl, t1, bd_s]
    exact ⟨τ', rfl, t2, fun c hc => by rw [t3 c (by omega) (by omega), hτ c hc]⟩
  | some o =>
    have ho1 := W.own p o hp ho
    rw [if_neg (show ¬ oI (some o) = -1 from nI_m1 (by omega)), show oI (some o) = nI o from rfl]
    have hl := W.like o w ho1 hw
    have e4 : X7_likesOf τ B (nI o) (nI w) = some (nI (v.like o w)) := by
      unfold X7_likesOf
      rw [ix6, e_get (by rw [l18]; omega) (by rw [l18]; decide), bd_s]
      have := R4.like o w (by simp only [VR]; exact ho1) (by simp only [VR]; exact hw) (fun z => hown (by rw [ho, z]))
      simp only [VR] at this
      exact congrArg some this
    rw [e4, bd_s, nI_1, show (9 : Int32) = nI 9 from rfl, mn999 (by omega) (by omega), e_setLikes hB W ho1 hw, bd_s]
    have Wk : WF ((((v.w_burn ((fun q => if q = p then true else v.burn q))).w_dark ((fun q => if q = p then 0 else v.dark q))).w_tp ((fun q => if q = w then v.tp w - 1 else v.tp q))).w_lt ((fun q => if q = w then min 999 (v.lt w + 1) else v.lt q))) := W.kin4 hp hoil
    have R5 := R4.s_like Wk (w := o) (o := w) (by simp only [VR]; exact ho1) (by simp only [VR]; exact hw) (min 9 (v.like o w + 1))
    simp only [VR] at R5
    have hk : v.kindle w p = (((((v.w_burn ((fun q => if q = p then true else v.burn q))).w_dark ((fun q => if q = p then 0 else v.dark q))).w_tp ((fun q => if q = w then v.tp w - 1 else v.tp q))).w_lt ((fun q => if q = w then min 999 (v.lt w + 1) else v.lt q))).w_like (fun a b => if a = o ∧ b = w then min 9 (v.like o w + 1) else v.like a b)) := by
      unfold View.kindle; simp only [ho]
    unfold X7_light_92
    rw [← hk] at R5
    obtain ⟨τ', t1, t2, t3⟩ := e_write hB W2 R5 he (kd := kd) (pn := p) (wk := some w)
    rw [show nI w = oI (some w) from rfl, t1, bd_s]
    exact ⟨τ', rfl, t2, fun c hc => by rw [t3 c (by omega) (by omega), st_n (by omega), hτ c hc]⟩
theorem ixL (o w : Nat) : ((152 : Int32) + ((6 : Int32) * nI o)) + nI w = nI (152 + 6 * o + w) := by
  rw [show (152 : Int32) = nI 152 from rfl, show (6 : Int32) = nI 6 from rfl, nI_mul, nI_add, nI_add]
theorem ixU (w k : Nat) : ((128 : Int32) + ((4 : Int32) * nI w)) + nI k = nI (128 + 4 * w + k) := by
  rw [show (128 : Int32) = nI 128 from rfl, ix4]
theorem nI_sub1 {n : Nat} (h : 0 < n) : nI n - 1 = nI (n - 1) := nI_subN (a := n) (b := 1) (by omega)
theorem m_kindles (W : WF v) (M : SM (σ 400) v) {w p kd : Nat} (hw : w < v.k) (hp : p < v.n) (ht : 0 < v.tp w) (hoil : 0 < v.oil p) (hown : v.own p ≠ some w) (W2 : WF (v.kindle w p)) : ∃ σ', X12_kindles (nI w) (nI p) (nI kd) σ = some σ' ∧ SM (σ' 400) ((v.kindle w p).write kd p (some w)) ∧ ∀ c, c ≠ 400 → σ' c = σ c := by
  have h9 := W.n9
  have h6 := W.k6
  have hlt := W.lt w hw
  unfold X12_kindles
  rw [show X12_lays (nI p) (1 : Int32) (1 : Int32) σ = some (st σ 400 (11 + 4 * p + 1) (b2i true)) from m_lays W hp (k := 1) (by omega), bd_s]
  have M1 := M.s_burn h9 h6 W.log hp true
  rw [show ∀ τ : Mem, X12_lays (nI p) (3 : Int32) (0 : Int32) τ = some (st τ 400 (11 + 4 * p + 3) (nI 0)) from fun τ => m_lays W hp (k := 3) (by omega), bd_s]
  have M2 := M1.s_dark (by simp only [VR]; exact h9) (by simp only [VR]; exact h6) (by simp only [VR]; exact W.log) (p := p) (by simp only [VR]; exact hp) 0
  simp only [VR] at M2
  rw [show (1 : Int32) = nI 1 from rfl, ixU, m_at (by omega), bd_s]
  simp only [st_sr, sr_sr, sr_s]
  rw [show (upd (upd (σ 400) (11 + 4 * p + 1) (b2i true)) (11 + 4 * p + 3) (nI 0)) (128 + 4 * w + 1) = nI (v.tp w) from by have := M2.tp w (by simp only [VR]; exact hw); simpa only [VR] using this, show nI (v.tp w) - nI 1 = nI (v.tp w - 1) from nI_sub1 ht, m_set (by omega), bd_s]
  have M3 := M2.s_tp (by simp only [VR]; exact h9) (by simp only [VR]; exact h6) (by simp only [VR]; exact W.log) (p := w) (by simp only [VR]; exact hw) (v.tp w - 1)
  simp only [VR] at M3
  simp only [st_sr, sr_sr, sr_s]
  rw [show ∀ τ : Mem, X12_ofWalker τ (nI w) (3 : Int32) = some (τ 400 (128 + 4 * w + 3)) from fun τ => m_ofWalker W hw (k := 3) (by omega), bd_s]
  simp only [st_sr, sr_sr, sr_s]
  rw [show (upd (upd (upd (σ 400) (11 + 4 * p + 1) (b2i true)) (11 + 4 * p + 3) (nI 0)) (128 + 4 * w + 1) (nI (v.tp w - 1))) (128 + 4 * w + 3) = nI (v.lt w) from by have := M3.lt w (by simp only [VR]; exact hw); simpa only [VR] using this, nI_add, show (999 : Int32) = nI 999 from rfl, m_lesser (by omega) (by omega), bd_s, show (3 : Int32) = nI 3 from rfl, ixU, m_set (by omega), bd_s]
  have M4 := M3.s_lt (by simp only [VR]; exact h9) (by simp only [VR]; exact h6) (by simp only [VR]; exact W.log) (p := w) (by simp only [VR]; exact hw) (min 999 (v.lt w + 1))
  simp only [VR] at M4
  simp only [st_sr, sr_sr, sr_s]
  generalize hs : upd (upd (upd (upd (σ 400) (11 + 4 * p + 1) (b2i true)) (11 + 4 * p + 3) (nI 0)) (128 + 4 * w + 1) (nI (v.tp w - 1))) (128 + 4 * w + 3) (nI (min 999 (v.lt w + 1))) = a at M4 ⊢
  have M4 : SM a ((((v.w_burn ((fun q => if q = p then true else v.burn q))).w_dark ((fun q => if q = p then 0 else v.dark q))).w_tp ((fun q => if q = w then v.tp w - 1 else v.tp q))).w_lt ((fun q => if q = w then min 999 (v.lt w + 1) else v.lt q))) := M4
  rw [show ∀ τ : Mem, X12_of τ (nI p) (2 : Int32) = some (τ 400 (11 + 4 * p + 2)) from fun τ => m_of W hp (k := 2) (by omega), bd_s, sr_s, show a (11 + 4 * p + 2) = oI (v.own p) from by have := M4.own p (by simp only [VR]; exact hp); simpa only [VR] using this]
  cases ho : v.own p with
  | none =>
    rw [show (-nI 1 : Int32) = -1 from rfl, if_pos (show oI none = -1 from rfl)]
    unfold X12_kindles_104
    have hk : v.kindle w p = ((((v.w_burn ((fun q => if q = p then true else v.burn q))).w_dark ((fun q => if q = p then 0 else v.dark q))).w_tp ((fun q => if q = w then v.tp w - 1 else v.tp q))).w_lt ((fun q => if q = w then min 999 (v.lt w + 1) else v.lt q))) := by
      unfold View.kindle; simp only [ho]; exact View.id_like (by simp only [VR])
    rw [← hk] at M4
    obtain ⟨τ', t1, t2, t3⟩ := m_logs (σ := sr σ 400 a) W2 (by rw [sr_s]; exact M4) (kd := kd) (pn := p) (wk := some w)
    rw [show nI w = oI (some w) from rfl, t1, bd_s]
    exact ⟨τ', rfl, t2, fun c hc => by rw [t3 c hc, sr_n hc]⟩
  | some o =>
    have ho1 := W.own p o hp ho
    have hl := W.like o w ho1 hw
    rw [show (-nI 1 : Int32) = -1 from rfl, if_neg (show ¬ oI (some o) = -1 from nI_m1 (by omega)), show oI (some o) = nI o from rfl]
    have e4 : X12_liking (sr σ 400 a) (nI o) (nI w) = some (nI (v.like o w)) := by
      unfold X12_liking
      rw [ixL, m_at (by omega), bd_s, sr_s]
      have := M4.like o w (by simp only [VR]; exact ho1) (by simp only [VR]; exact hw)
      simp only [VR] at this
      exact congrArg some this
    rw [e4, bd_s, nI_add, show (9 : Int32) = nI 9 from rfl, m_lesser (by omega) (by omega), bd_s, ixL, m_set (by omega), bd_s]
    have M5 := M4.s_like (by simp only [VR]; exact h9) (by simp only [VR]; exact h6) (by simp only [VR]; exact W.log) (w := o) (o := w) (by simp only [VR]; exact ho1) (by simp only [VR]; exact hw) (min 9 (v.like o w + 1))
    simp only [VR] at M5
    have hk : v.kindle w p = (((((v.w_burn ((fun q => if q = p then true else v.burn q))).w_dark ((fun q => if q = p then 0 else v.dark q))).w_tp ((fun q => if q = w then v.tp w - 1 else v.tp q))).w_lt ((fun q => if q = w then min 999 (v.lt w + 1) else v.lt q))).w_like (fun a b => if a = o ∧ b = w then min 9 (v.like o w + 1) else v.like a b)) := by
      unfold View.kindle; simp only [ho]
    unfold X12_kindles_104
    rw [← hk] at M5
    obtain ⟨τ', t1, t2, t3⟩ := m_logs (σ := st (sr σ 400 a) 400 (152 + 6 * o + w) (nI (min 9 (v.like o w + 1)))) W2 (by rw [st_s, sr_s]; exact M5) (kd := kd) (pn := p) (wk := some w)
    rw [show nI w = oI (some w) from rfl, t1, bd_s]
    exact ⟨τ', rfl, t2, fun c hc => by rw [t3 c hc, st_n hc, sr_n hc]⟩
end LIGHT

/-! a row of the log is written, both sides -/
noncomputable def View.write (v : View) (kd pn : Nat) (wk : Option Nat) : View := (v.w_log (((⟨v.night, v.hour, kd, pn, wk⟩ : Rw) :: v.log).take 60))
theorem st_sr {σ : Mem} {k i : Nat} {x : Int32} : st σ k i x = sr σ k (upd (σ k) i x) := rfl
theorem sr_sr {σ : Mem} {k : Nat} {f g : Nat → Int32} : sr (sr σ k f) k g = sr σ k g := by
  funext b
  unfold sr
  split <;> rfl
theorem sr_id {σ : Mem} {k : Nat} : sr σ k (σ k) = σ := by
  funext b
  unfold sr
  split
  · rename_i h; rw [h]
  · rfl
theorem Rw.pk_lt {r : Rw} (h : r.ok) : r.pk < 2 ^ 28 := by
  obtain ⟨h1, h2, h3, h4, h5⟩ := h
  unfold Rw.pk
  cases hw : r.wk with
  | none => simp only; omega
  | some w => have := h5 w hw; simp only; omega
section LOG
variable {σ : Mem} {B : Nat} {v : View} {e : Nat}
theorem e_row {nt hr kd pn : Nat} {wk : Option Nat} : ((((((((nI nt * (32 : Int32)) + nI hr) * (4 : Int32)) + nI kd) * (16 : Int32)) + nI pn) * (8 : Int32)) + oI wk) + (1 : Int32) = nI (Rw.pk ⟨nt, hr, kd, pn, wk⟩) := by
  rw [show (32 : Int32) = nI 32 from rfl, show (4 : Int32) = nI 4 from rfl, show (16 : Int32) = nI 16 from rfl, show (8 : Int32) = nI 8 from rfl]
  simp only [nI_mul, nI_add]
  unfold Rw.pk
  cases wk with
  | none =>
    show nI _ + (-1) + 1 = nI (_ + 0)
    rw [Int32.add_assoc]
    exact Int32.add_zero _
  | some w =>
    show nI _ + nI w + 1 = nI (_ + (w + 1))
    rw [nI_add, nI_1]
    congr 1
theorem WF.write (W : WF v) {kd pn : Nat} {wk : Option Nat} (hk : kd ≤ 3) (hp : pn < 9) (hw : ∀ w, wk = some w → w < 6) : WF (v.write kd pn wk) :=
  (by
    unfold WF
    try simp only [VR, View.write]
    exact ⟨W.n9, W.k6, W.texts, W.hour, W.night, W.fog, W.oil, W.dark, W.own, W.one, W.burn, W.sym, W.irr, W.pl, W.tp, W.lt, W.hd, W.like, W.self, by rw [List.length_take]; omega, 
      fun r hr => by
      have := List.mem_of_mem_take hr
      rcases List.mem_cons.mp this with rfl | h
      · exact ⟨W.night, W.hour, hk, hp, hw⟩
      · exact W.rows r h⟩)
theorem e_write (hB : kd B = 2) (W : WF v) (R : SC σ B v e) (he : e < 2 ^ 30) {kd pn : Nat} {wk : Option Nat} : ∃ σ', X7_write B (nI kd) (nI pn) (oI wk) σ = some σ' ∧ SC σ' B (v.write kd pn wk) (e + 1) ∧ ∀ c, c ≠ B → c ≠ B + 20 → σ' c = σ c := by
  obtain ⟨c, c1, c2, c3, c4⟩ := R.log
  have hl : ln (B + 19 + 1) = 60 := (ln_str hB).2.2.2.2.2.2.2.2.2
  have h60 := W.log
  refine ⟨st (st σ (B + 20) (c % 60) (nI (Rw.pk ⟨v.night, v.hour, kd, pn, wk⟩))) B 19 (nI (c + 1)), ?_, ?_, fun b h1 h2 => by rw [st_n h1, st_n h2]⟩
  · unfold X7_write
    rw [bd_s, R.night, R.hour, e_row, c2, show (60 : Int32) = nI 60 from rfl, pk_rem (by omega) (by decide) (by decide), e_set (by rw [hl]; omega) (by rw [hl]; decide), bd_s]
    unfold pu
    rw [bd_s, st_n (by omega), c2, nI_1]
  · have h1 : ∀ b, b ≠ B → b ≠ B + 20 → st (st σ (B + 20) (c % 60) (nI (Rw.pk ⟨v.night, v.hour, kd, pn, wk⟩))) B 19 (nI (c + 1)) b = σ b := fun b h1 h2 => by rw [st_n h1, st_n h2]
    have h0 : ∀ i, i ≠ 19 → st (st σ (B + 20) (c % 60) (nI (Rw.pk ⟨v.night, v.hour, kd, pn, wk⟩))) B 19 (nI (c + 1)) B i = σ B i := fun i h => by rw [st_at' h, st_n (by omega)]
    exact (by
    unfold SC
    try simp only [VR, View.write]
    exact ⟨by rw [h0 _ (by decide)]; exact R.n, by rw [h0 _ (by decide)]; exact R.k, by rw [h0 _ (by decide)]; exact R.texts, by rw [h0 _ (by decide)]; exact R.hour, by rw [h0 _ (by decide)]; exact R.night, by rw [h0 _ (by decide)]; exact R.fog, by rw [h0 _ (by decide)]; exact R.mist, by rw [h0 _ (by decide)]; exact R.seed, by rw [h0 _ (by decide)]; exact R.burn, fun p hp => by rw [h1 _ (by omega) (by omega)]; exact R.oil p hp, fun p hp => by rw [h1 _ (by omega) (by omega)]; exact R.own p hp, fun p hp => by rw [h1 _ (by omega) (by omega)]; exact R.dark p hp, fun p hp => by rw [h1 _ (by omega) (by omega)]; exact R.way p hp, fun p hp => by rw [h1 _ (by omega) (by omega)]; exact R.pl p hp, fun p hp => by rw [h1 _ (by omega) (by omega)]; exact R.tp p hp, fun p hp => by rw [h1 _ (by omega) (by omega)]; exact R.hd p hp, fun p hp => by rw [h1 _ (by omega) (by omega)]; exact R.lt p hp, fun w o hw ho hn => by rw [h1 _ (by omega) (by omega)]; exact R.like w o hw ho hn, 
      by
        refine ⟨c + 1, by omega, by rw [st_at], ?_, fun a r ha => ?_⟩
        · show _ = (List.take 60 _).length
          rw [List.length_take, List.length_cons]
          omega
        · have ha60 : a < 60 := by
            have := (List.getElem?_eq_some_iff.mp ha).1
            rw [List.length_take] at this
            omega
          have ha2 : ((⟨v.night, v.hour, kd, pn, wk⟩ : Rw) :: v.log)[a]? = some r := by
            have : (List.take 60 ((⟨v.night, v.hour, kd, pn, wk⟩ : Rw) :: v.log))[a]? = some r := ha
            rwa [List.getElem?_take, if_pos ha60] at this
          rw [st_n (by omega)]
          cases a with
          | zero =>
            rw [show (c + 1 - 1 - 0) % 60 = c % 60 by omega, st_at]
            rw [List.getElem?_cons_zero] at ha2
            rw [← Option.some.inj ha2]
          | succ a =>
            rw [List.getElem?_cons_succ] at ha2
            have hlt := (List.getElem?_eq_some_iff.mp ha2).1
            rw [st_at' (by omega), show c + 1 - 1 - (a + 1) = c - 1 - a by omega]
            exact c4 a r ha2⟩)
theorem nI_dec (n : Nat) : nI (n + 1) + -1 = nI n := by
  rw [nI_succ, Int32.add_assoc]
  exact Int32.add_zero _
/-- rows of the reference, moved up by five -/
def shf (m : Nat) (a : Nat → Int32) : Nat → Int32 := fun i => if 193 ≤ i ∧ i < 193 + m then a (i - 5) else a i
theorem shf_s {m : Nat} {a : Nat → Int32} : shf m (upd a (193 + m) (a (188 + m))) = shf (m + 1) a := by
  funext i
  unfold shf upd
  by_cases h : i = 193 + m
  · subst h
    rw [if_neg (by omega), if_pos rfl, if_pos (by omega), show 193 + m - 5 = 188 + m by omega]
  · by_cases h2 : 193 ≤ i ∧ i < 193 + m
    · rw [if_pos h2, if_neg (by omega), if_pos (by omega)]
    · rw [if_neg h2, if_neg h, if_neg (by omega)]
theorem m_logs_l {x1 x2 x3 : Int32} : ∀ (m fuel : Nat) (σ : Mem), m ≤ 295 → m < fuel → X12_logs_5 fuel x1 x2 x3 (nI (4 + m)) σ = X12_logs_5 1 x1 x2 x3 (nI 4) (sr σ 400 (shf m (σ 400))) := by
  intro m
  induction m with
  | zero =>
    intro fuel σ hm hf
    obtain ⟨fuel, rfl⟩ : ∃ z, fuel = z + 1 := ⟨fuel - 1, by omega⟩
    have : shf 0 (σ 400) = σ 400 := by funext i; unfold shf; rw [if_neg (by omega)]
    rw [this, sr_id, X12_logs_5, X12_logs_5, if_pos (show nI (4 + 0) < 5 by decide), if_pos (show nI 4 < 5 by decide)]
  | succ m ih =>
    intro fuel σ hm hf
    obtain ⟨fuel, rfl⟩ : ∃ z, fuel = z + 1 := ⟨fuel - 1, by omega⟩
    rw [X12_logs_5, if_neg (show ¬ nI (4 + (m + 1)) < 5 from nI_nlt (b := 5) (by omega) (by omega))]
    rw [show (188 : Int32) = nI 188 from rfl, nI_add, show (5 : Int32) = nI 5 from rfl, nI_subN (by omega), show 188 + (4 + (m + 1)) - 5 = 188 + m by omega, show 188 + (4 + (m + 1)) = 193 + m by omega, m_at (by omega), bd_s, m_set (by omega), bd_s]
    rw [show 4 + (m + 1) = 4 + m + 1 from rfl, nI_dec (4 + m), ih fuel _ (by omega) (by omega), st_sr, sr_sr, sr_s, shf_s]
theorem m_logs (W : WF v) (M : SM (σ 400) v) {kd pn : Nat} {wk : Option Nat} : ∃ σ', X12_logs (nI kd) (nI pn) (oI wk) σ = some σ' ∧ SM (σ' 400) (v.write kd pn wk) ∧ ∀ c, c ≠ 400 → σ' c = σ c := by
  have h9 := W.n9
  have h6 := W.k6
  have h60 := W.log
  unfold X12_logs
  rw [show (299 : Int32) = nI (4 + 295) from rfl, m_logs_l 295 FU σ (by omega) (by decide)]
  generalize hs : sr σ 400 (shf 295 (σ 400)) = τ
  have hτ : τ 400 = shf 295 (σ 400) := by rw [← hs, sr_s]
  have hτn : ∀ c, c ≠ 400 → τ c = σ c := fun c hc => by rw [← hs, sr_n hc]
  have hlow : ∀ i, i < 193 → τ 400 i = σ 400 i := fun i hi => by rw [hτ, shf, if_neg (by omega)]
  have hhi : ∀ i, 193 ≤ i → i < 488 → τ 400 i = σ 400 (i - 5) := fun i h1 h2 => by rw [hτ, shf, if_pos (by omega)]
  rw [X12_logs_5, if_pos (show nI 4 < 5 by decide), show (6 : Int32) = nI 6 from rfl, m_at (by omega), bd_s, show (188 : Int32) = nI 188 from rfl, m_set (by omega), bd_s, show (5 : Int32) = nI 5 from rfl, m_at (by omega), bd_s, show (189 : Int32) = nI 189 from rfl, m_set (by omega), bd_s, show (190 : Int32) = nI 190 from rfl, m_set (by omega), bd_s, show (191 : Int32) = nI 191 from rfl, m_set (by omega), bd_s, show (192 : Int32) = nI 192 from rfl, m_set (by omega), bd_s, show (9 : Int32) = nI 9 from rfl, m_at (by omega), bd_s]
  simp only [st_sr, sr_sr, sr_s]
  rw [show ((upd (upd (upd (upd (upd (τ 400) 188 (τ 400 6)) 189 (upd (τ 400) 188 (τ 400 6) 5)) 190 (nI kd)) 191 (nI pn)) 192 (oI wk)) 9 : Int32) = nI v.log.length by simp [upd]; rw [hlow 9 (by omega)]; exact M.logs, nI_1, show (60 : Int32) = nI 60 from rfl, m_lesser (by omega) (by omega), bd_s, m_set (by omega), bd_s]
  refine ⟨_, rfl, ?_, fun c hc => by rw [st_n hc, sr_n hc]; exact hτn c hc⟩
  rw [st_s, sr_s]
  have hg : ∀ i, i < 188 → i ≠ 9 → (upd (upd (upd (upd (upd (upd (τ 400) 188 (τ 400 6)) 189 (upd (τ 400) 188 (τ 400 6) 5)) 190 (nI kd)) 191 (nI pn)) 192 (oI wk)) 9 (nI (min 60 (v.log.length + 1)))) i = σ 400 i := fun i h1 h2 => by
    simp only [upd]
    rw [if_neg h2, if_neg (by omega), if_neg (by omega), if_neg (by omega), if_neg (by omega), if_neg (by omega)]
    exact hlow i (by omega)
  exact (by
    unfold SM
    try simp only [VR, View.write]
    exact ⟨by rw [hg _ (by omega) (by omega)]; exact M.texts, by rw [hg _ (by omega) (by omega)]; exact M.n, by rw [hg _ (by omega) (by omega)]; exact M.k, by rw [hg _ (by omega) (by omega)]; exact M.hour, by rw [hg _ (by omega) (by omega)]; exact M.night, by rw [hg _ (by omega) (by omega)]; exact M.fog, by rw [hg _ (by omega) (by omega)]; exact M.mist, 
      by
      show upd _ 9 _ 9 = nI (List.take 60 _).length
      rw [List.length_take, List.length_cons]
      simp [upd], by rw [hg _ (by omega) (by omega)]; exact M.seed, fun p hp => by rw [hg _ (by omega) (by omega)]; exact M.oil p hp, fun p hp => by rw [hg _ (by omega) (by omega)]; exact M.burn p hp, fun p hp => by rw [hg _ (by omega) (by omega)]; exact M.own p hp, fun p hp => by rw [hg _ (by omega) (by omega)]; exact M.dark p hp, fun p q hp hq => by rw [hg _ (by omega) (by omega)]; exact M.way p q hp hq, fun p hp => by rw [hg _ (by omega) (by omega)]; exact M.pl p hp, fun p hp => by rw [hg _ (by omega) (by omega)]; exact M.tp p hp, fun p hp => by rw [hg _ (by omega) (by omega)]; exact M.hd p hp, fun p hp => by rw [hg _ (by omega) (by omega)]; exact M.lt p hp, fun p q hp hq => by rw [hg _ (by omega) (by omega)]; exact M.like p q hp hq, 
      fun a r ha => by
      have ha60 : a < 60 := by
        have := (List.getElem?_eq_some_iff.mp ha).1
        rw [List.length_take] at this
        omega
      have ha2 : ((⟨v.night, v.hour, kd, pn, wk⟩ : Rw) :: v.log)[a]? = some r := by
        have : (List.take 60 ((⟨v.night, v.hour, kd, pn, wk⟩ : Rw) :: v.log))[a]? = some r := ha
        rwa [List.getElem?_take, if_pos ha60] at this
      cases a with
      | zero =>
        rw [List.getElem?_cons_zero] at ha2
        rw [← Option.some.inj ha2]
        simp [upd]
        exact ⟨by rw [hlow 6 (by omega)]; exact M.night, by rw [hlow 5 (by omega)]; exact M.hour, rfl, rfl, rfl⟩
      | succ a =>
        rw [List.getElem?_cons_succ] at ha2
        obtain ⟨h1, h2, h3, h4, h5⟩ := M.log a r ha2
        have hlt := (List.getElem?_eq_some_iff.mp ha2).1
        have hx : ∀ j, j < 5 → (upd (upd (upd (upd (upd (upd (τ 400) 188 (τ 400 6)) 189 (upd (τ 400) 188 (τ 400 6) 5)) 190 (nI kd)) 191 (nI pn)) 192 (oI wk)) 9 (nI (min 60 (v.log.length + 1)))) (188 + 5 * (a + 1) + j) = σ 400 (188 + 5 * a + j) := fun j hj => by
          simp only [upd]
          rw [if_neg (by omega), if_neg (by omega), if_neg (by omega), if_neg (by omega), if_neg (by omega), if_neg (by omega), hhi _ (by omega) (by omega)]
          congr 1
          omega
        exact ⟨(hx 0 (by omega)).trans h1, (hx 1 (by omega)).trans h2, (hx 2 (by omega)).trans h3, (hx 3 (by omega)).trans h4, (hx 4 (by omega)).trans h5⟩, 
      fun i hi => by
        rcases Nat.lt_or_ge i 188 with h | h
        · rw [hg _ h (by omega)]; exact M.txt i hi
        · simp only [upd]
          rw [if_neg (by omega), if_neg (by omega), if_neg (by omega), if_neg (by omega), if_neg (by omega), if_neg (by omega), hτ, shf, if_neg (by omega)]
          exact M.txt i hi⟩)
end LOG

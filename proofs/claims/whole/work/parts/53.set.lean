/-! one number put -/
section PUTS
variable {σ : Mem} {B : Nat} {v : View} {e : Nat}
theorem SC.move {σ' : Mem} (R : SC σ B v e) (h : ∀ c, B ≤ c → c < B + 21 → σ' c = σ c) : SC σ' B v e := (by
    unfold SC
    try simp only [VR]
    exact ⟨by rw [h _ (by omega) (by omega)]; exact R.n, by rw [h _ (by omega) (by omega)]; exact R.k, by rw [h _ (by omega) (by omega)]; exact R.texts, by rw [h _ (by omega) (by omega)]; exact R.hour, by rw [h _ (by omega) (by omega)]; exact R.night, by rw [h _ (by omega) (by omega)]; exact R.fog, by rw [h _ (by omega) (by omega)]; exact R.mist, by rw [h _ (by omega) (by omega)]; exact R.seed, by rw [h _ (by omega) (by omega)]; exact R.burn, fun p hp => by rw [h _ (by omega) (by omega)]; exact R.oil p hp, fun p hp => by rw [h _ (by omega) (by omega)]; exact R.own p hp, fun p hp => by rw [h _ (by omega) (by omega)]; exact R.dark p hp, fun p hp => by rw [h _ (by omega) (by omega)]; exact R.way p hp, fun p hp => by rw [h _ (by omega) (by omega)]; exact R.pl p hp, fun p hp => by rw [h _ (by omega) (by omega)]; exact R.tp p hp, fun p hp => by rw [h _ (by omega) (by omega)]; exact R.hd p hp, fun p hp => by rw [h _ (by omega) (by omega)]; exact R.lt p hp, fun w o hw ho hn => by rw [h _ (by omega) (by omega)]; exact R.like w o hw ho hn, 
      by
      obtain ⟨c, h1, h2, h3, h4⟩ := R.log
      exact ⟨c, h1, by rw [h _ (by omega) (by omega)]; exact h2, h3, fun a r q => by rw [h _ (by omega) (by omega)]; exact h4 a r q⟩⟩)
theorem SC.s_texts (R : SC σ B v e) (x : Nat) : SC (st σ B 2 (nI x)) B (v.w_texts (x)) e := (by
    unfold SC
    try simp only [VR]
    exact ⟨by rw [st_at' (by decide)]; exact R.n, by rw [st_at' (by decide)]; exact R.k, by exact st_at, by rw [st_at' (by decide)]; exact R.hour, by rw [st_at' (by decide)]; exact R.night, by rw [st_at' (by decide)]; exact R.fog, by rw [st_at' (by decide)]; exact R.mist, by rw [st_at' (by decide)]; exact R.seed, by rw [st_at' (by decide)]; exact R.burn, fun p hp => by rw [st_n (by omega)]; exact R.oil p hp, fun p hp => by rw [st_n (by omega)]; exact R.own p hp, fun p hp => by rw [st_n (by omega)]; exact R.dark p hp, fun p hp => by rw [st_n (by omega)]; exact R.way p hp, fun p hp => by rw [st_n (by omega)]; exact R.pl p hp, fun p hp => by rw [st_n (by omega)]; exact R.tp p hp, fun p hp => by rw [st_n (by omega)]; exact R.hd p hp, fun p hp => by rw [st_n (by omega)]; exact R.lt p hp, fun w o hw ho hn => by rw [st_n (by omega)]; exact R.like w o hw ho hn, 
      by
      obtain ⟨c, h1, h2, h3, h4⟩ := R.log
      exact ⟨c, h1, by rw [st_at' (by decide)]; exact h2, by exact h3, fun a r h => by rw [st_n (by omega)]; exact h4 a r h⟩⟩)
theorem SC.s_hour (R : SC σ B v e) (x : Nat) : SC (st σ B 3 (nI x)) B (v.w_hour (x)) e := (by
    unfold SC
    try simp only [VR]
    exact ⟨by rw [st_at' (by decide)]; exact R.n, by rw [st_at' (by decide)]; exact R.k, by rw [st_at' (by decide)]; exact R.texts, by exact st_at, by rw [st_at' (by decide)]; exact R.night, by rw [st_at' (by decide)]; exact R.fog, by rw [st_at' (by decide)]; exact R.mist, by rw [st_at' (by decide)]; exact R.seed, by rw [st_at' (by decide)]; exact R.burn, fun p hp => by rw [st_n (by omega)]; exact R.oil p hp, fun p hp => by rw [st_n (by omega)]; exact R.own p hp, fun p hp => by rw [st_n (by omega)]; exact R.dark p hp, fun p hp => by rw [st_n (by omega)]; exact R.way p hp, fun p hp => by rw [st_n (by omega)]; exact R.pl p hp, fun p hp => by rw [st_n (by omega)]; exact R.tp p hp, fun p hp => by rw [st_n (by omega)]; exact R.hd p hp, fun p hp => by rw [st_n (by omega)]; exact R.lt p hp, fun w o hw ho hn => by rw [st_n (by omega)]; exact R.like w o hw ho hn, 
      by
      obtain ⟨c, h1, h2, h3, h4⟩ := R.log
      exact ⟨c, h1, by rw [st_at' (by decide)]; exact h2, by exact h3, fun a r h => by rw [st_n (by omega)]; exact h4 a r h⟩⟩)
theorem SC.s_night (R : SC σ B v e) (x : Nat) : SC (st σ B 4 (nI x)) B (v.w_night (x)) e := (by
    unfold SC
    try simp only [VR]
    exact ⟨by rw [st_at' (by decide)]; exact R.n, by rw [st_at' (by decide)]; exact R.k, by rw [st_at' (by decide)]; exact R.texts, by rw [st_at' (by decide)]; exact R.hour, by exact st_at, by rw [st_at' (by decide)]; exact R.fog, by rw [st_at' (by decide)]; exact R.mist, by rw [st_at' (by decide)]; exact R.seed, by rw [st_at' (by decide)]; exact R.burn, fun p hp => by rw [st_n (by omega)]; exact R.oil p hp, fun p hp => by rw [st_n (by omega)]; exact R.own p hp, fun p hp => by rw [st_n (by omega)]; exact R.dark p hp, fun p hp => by rw [st_n (by omega)]; exact R.way p hp, fun p hp => by rw [st_n (by omega)]; exact R.pl p hp, fun p hp => by rw [st_n (by omega)]; exact R.tp p hp, fun p hp => by rw [st_n (by omega)]; exact R.hd p hp, fun p hp => by rw [st_n (by omega)]; exact R.lt p hp, fun w o hw ho hn => by rw [st_n (by omega)]; exact R.like w o hw ho hn, 
      by
      obtain ⟨c, h1, h2, h3, h4⟩ := R.log
      exact ⟨c, h1, by rw [st_at' (by decide)]; exact h2, by exact h3, fun a r h => by rw [st_n (by omega)]; exact h4 a r h⟩⟩)
theorem SC.s_fog (R : SC σ B v e) (x : Nat) : SC (st σ B 5 (nI x)) B (v.w_fog (x)) e := (by
    unfold SC
    try simp only [VR]
    exact ⟨by rw [st_at' (by decide)]; exact R.n, by rw [st_at' (by decide)]; exact R.k, by rw [st_at' (by decide)]; exact R.texts, by rw [st_at' (by decide)]; exact R.hour, by rw [st_at' (by decide)]; exact R.night, by exact st_at, by rw [st_at' (by decide)]; exact R.mist, by rw [st_at' (by decide)]; exact R.seed, by rw [st_at' (by decide)]; exact R.burn, fun p hp => by rw [st_n (by omega)]; exact R.oil p hp, fun p hp => by rw [st_n (by omega)]; exact R.own p hp, fun p hp => by rw [st_n (by omega)]; exact R.dark p hp, fun p hp => by rw [st_n (by omega)]; exact R.way p hp, fun p hp => by rw [st_n (by omega)]; exact R.pl p hp, fun p hp => by rw [st_n (by omega)]; exact R.tp p hp, fun p hp => by rw [st_n (by omega)]; exact R.hd p hp, fun p hp => by rw [st_n (by omega)]; exact R.lt p hp, fun w o hw ho hn => by rw [st_n (by omega)]; exact R.like w o hw ho hn, 
      by
      obtain ⟨c, h1, h2, h3, h4⟩ := R.log
      exact ⟨c, h1, by rw [st_at' (by decide)]; exact h2, by exact h3, fun a r h => by rw [st_n (by omega)]; exact h4 a r h⟩⟩)
theorem SC.s_mist (R : SC σ B v e) (x : Bool) : SC (st σ B 6 (b2i x)) B (v.w_mist (x)) e := (by
    unfold SC
    try simp only [VR]
    exact ⟨by rw [st_at' (by decide)]; exact R.n, by rw [st_at' (by decide)]; exact R.k, by rw [st_at' (by decide)]; exact R.texts, by rw [st_at' (by decide)]; exact R.hour, by rw [st_at' (by decide)]; exact R.night, by rw [st_at' (by decide)]; exact R.fog, by exact st_at, by rw [st_at' (by decide)]; exact R.seed, by rw [st_at' (by decide)]; exact R.burn, fun p hp => by rw [st_n (by omega)]; exact R.oil p hp, fun p hp => by rw [st_n (by omega)]; exact R.own p hp, fun p hp => by rw [st_n (by omega)]; exact R.dark p hp, fun p hp => by rw [st_n (by omega)]; exact R.way p hp, fun p hp => by rw [st_n (by omega)]; exact R.pl p hp, fun p hp => by rw [st_n (by omega)]; exact R.tp p hp, fun p hp => by rw [st_n (by omega)]; exact R.hd p hp, fun p hp => by rw [st_n (by omega)]; exact R.lt p hp, fun w o hw ho hn => by rw [st_n (by omega)]; exact R.like w o hw ho hn, 
      by
      obtain ⟨c, h1, h2, h3, h4⟩ := R.log
      exact ⟨c, h1, by rw [st_at' (by decide)]; exact h2, by exact h3, fun a r h => by rw [st_n (by omega)]; exact h4 a r h⟩⟩)
theorem SC.s_seed (R : SC σ B v e) (x : Int32) : SC (st σ B 7 (x)) B (v.w_seed (x)) e := (by
    unfold SC
    try simp only [VR]
    exact ⟨by rw [st_at' (by decide)]; exact R.n, by rw [st_at' (by decide)]; exact R.k, by rw [st_at' (by decide)]; exact R.texts, by rw [st_at' (by decide)]; exact R.hour, by rw [st_at' (by decide)]; exact R.night, by rw [st_at' (by decide)]; exact R.fog, by rw [st_at' (by decide)]; exact R.mist, by exact st_at, by rw [st_at' (by decide)]; exact R.burn, fun p hp => by rw [st_n (by omega)]; exact R.oil p hp, fun p hp => by rw [st_n (by omega)]; exact R.own p hp, fun p hp => by rw [st_n (by omega)]; exact R.dark p hp, fun p hp => by rw [st_n (by omega)]; exact R.way p hp, fun p hp => by rw [st_n (by omega)]; exact R.pl p hp, fun p hp => by rw [st_n (by omega)]; exact R.tp p hp, fun p hp => by rw [st_n (by omega)]; exact R.hd p hp, fun p hp => by rw [st_n (by omega)]; exact R.lt p hp, fun w o hw ho hn => by rw [st_n (by omega)]; exact R.like w o hw ho hn, 
      by
      obtain ⟨c, h1, h2, h3, h4⟩ := R.log
      exact ⟨c, h1, by rw [st_at' (by decide)]; exact h2, by exact h3, fun a r h => by rw [st_n (by omega)]; exact h4 a r h⟩⟩)
theorem SC.s_burn (R : SC σ B v e) (x : Nat → Bool) : SC (st σ B 8 (mkB x v.n)) B (v.w_burn (x)) e := (by
    unfold SC
    try simp only [VR]
    exact ⟨by rw [st_at' (by decide)]; exact R.n, by rw [st_at' (by decide)]; exact R.k, by rw [st_at' (by decide)]; exact R.texts, by rw [st_at' (by decide)]; exact R.hour, by rw [st_at' (by decide)]; exact R.night, by rw [st_at' (by decide)]; exact R.fog, by rw [st_at' (by decide)]; exact R.mist, by rw [st_at' (by decide)]; exact R.seed, by exact st_at, fun p hp => by rw [st_n (by omega)]; exact R.oil p hp, fun p hp => by rw [st_n (by omega)]; exact R.own p hp, fun p hp => by rw [st_n (by omega)]; exact R.dark p hp, fun p hp => by rw [st_n (by omega)]; exact R.way p hp, fun p hp => by rw [st_n (by omega)]; exact R.pl p hp, fun p hp => by rw [st_n (by omega)]; exact R.tp p hp, fun p hp => by rw [st_n (by omega)]; exact R.hd p hp, fun p hp => by rw [st_n (by omega)]; exact R.lt p hp, fun w o hw ho hn => by rw [st_n (by omega)]; exact R.like w o hw ho hn, 
      by
      obtain ⟨c, h1, h2, h3, h4⟩ := R.log
      exact ⟨c, h1, by rw [st_at' (by decide)]; exact h2, by exact h3, fun a r h => by rw [st_n (by omega)]; exact h4 a r h⟩⟩)
theorem SC.s_oil (R : SC σ B v e) (p : Nat) (x : Nat) : SC (st σ (B + 2) p (nI x)) B (v.w_oil (fun q => if q = p then x else v.oil q)) e := (by
    unfold SC
    try simp only [VR]
    exact ⟨by rw [st_n (by omega)]; exact R.n, by rw [st_n (by omega)]; exact R.k, by rw [st_n (by omega)]; exact R.texts, by rw [st_n (by omega)]; exact R.hour, by rw [st_n (by omega)]; exact R.night, by rw [st_n (by omega)]; exact R.fog, by rw [st_n (by omega)]; exact R.mist, by rw [st_n (by omega)]; exact R.seed, by rw [st_n (by omega)]; exact R.burn, 
      fun q hq => by
      by_cases h : q = p
      · subst h; rw [st_at]; simp
      · rw [st_at' h]; simp only [h, if_false]; exact R.oil q hq, fun p hp => by rw [st_n (by omega)]; exact R.own p hp, fun p hp => by rw [st_n (by omega)]; exact R.dark p hp, fun p hp => by rw [st_n (by omega)]; exact R.way p hp, fun p hp => by rw [st_n (by omega)]; exact R.pl p hp, fun p hp => by rw [st_n (by omega)]; exact R.tp p hp, fun p hp => by rw [st_n (by omega)]; exact R.hd p hp, fun p hp => by rw [st_n (by omega)]; exact R.lt p hp, fun w o hw ho hn => by rw [st_n (by omega)]; exact R.like w o hw ho hn, 
      by
      obtain ⟨c, h1, h2, h3, h4⟩ := R.log
      exact ⟨c, h1, by rw [st_n (by omega)]; exact h2, by exact h3, fun a r h => by rw [st_n (by omega)]; exact h4 a r h⟩⟩)
theorem SC.s_own (R : SC σ B v e) (p : Nat) (x : Option Nat) : SC (st σ (B + 4) p (oI x)) B (v.w_own (fun q => if q = p then x else v.own q)) e := (by
    unfold SC
    try simp only [VR]
    exact ⟨by rw [st_n (by omega)]; exact R.n, by rw [st_n (by omega)]; exact R.k, by rw [st_n (by omega)]; exact R.texts, by rw [st_n (by omega)]; exact R.hour, by rw [st_n (by omega)]; exact R.night, by rw [st_n (by omega)]; exact R.fog, by rw [st_n (by omega)]; exact R.mist, by rw [st_n (by omega)]; exact R.seed, by rw [st_n (by omega)]; exact R.burn, fun p hp => by rw [st_n (by omega)]; exact R.oil p hp, 
      fun q hq => by
      by_cases h : q = p
      · subst h; rw [st_at]; simp
      · rw [st_at' h]; simp only [h, if_false]; exact R.own q hq, fun p hp => by rw [st_n (by omega)]; exact R.dark p hp, fun p hp => by rw [st_n (by omega)]; exact R.way p hp, fun p hp => by rw [st_n (by omega)]; exact R.pl p hp, fun p hp => by rw [st_n (by omega)]; exact R.tp p hp, fun p hp => by rw [st_n (by omega)]; exact R.hd p hp, fun p hp => by rw [st_n (by omega)]; exact R.lt p hp, fun w o hw ho hn => by rw [st_n (by omega)]; exact R.like w o hw ho hn, 
      by
      obtain ⟨c, h1, h2, h3, h4⟩ := R.log
      exact ⟨c, h1, by rw [st_n (by omega)]; exact h2, by exact h3, fun a r h => by rw [st_n (by omega)]; exact h4 a r h⟩⟩)
theorem SC.s_dark (R : SC σ B v e) (p : Nat) (x : Nat) : SC (st σ (B + 6) p (nI x)) B (v.w_dark (fun q => if q = p then x else v.dark q)) e := (by
    unfold SC
    try simp only [VR]
    exact ⟨by rw [st_n (by omega)]; exact R.n, by rw [st_n (by omega)]; exact R.k, by rw [st_n (by omega)]; exact R.texts, by rw [st_n (by omega)]; exact R.hour, by rw [st_n (by omega)]; exact R.night, by rw [st_n (by omega)]; exact R.fog, by rw [st_n (by omega)]; exact R.mist, by rw [st_n (by omega)]; exact R.seed, by rw [st_n (by omega)]; exact R.burn, fun p hp => by rw [st_n (by omega)]; exact R.oil p hp, fun p hp => by rw [st_n (by omega)]; exact R.own p hp, 
      fun q hq => by
      by_cases h : q = p
      · subst h; rw [st_at]; simp
      · rw [st_at' h]; simp only [h, if_false]; exact R.dark q hq, fun p hp => by rw [st_n (by omega)]; exact R.way p hp, fun p hp => by rw [st_n (by omega)]; exact R.pl p hp, fun p hp => by rw [st_n (by omega)]; exact R.tp p hp, fun p hp => by rw [st_n (by omega)]; exact R.hd p hp, fun p hp => by rw [st_n (by omega)]; exact R.lt p hp, fun w o hw ho hn => by rw [st_n (by omega)]; exact R.like w o hw ho hn, 
      by
      obtain ⟨c, h1, h2, h3, h4⟩ := R.log
      exact ⟨c, h1, by rw [st_n (by omega)]; exact h2, by exact h3, fun a r h => by rw [st_n (by omega)]; exact h4 a r h⟩⟩)
theorem SC.s_way (R : SC σ B v e) (p : Nat) (x : Nat → Bool) : SC (st σ (B + 8) p (mkB x v.n)) B (v.w_way (fun q => if q = p then x else v.way q)) e := (by
    unfold SC
    try simp only [VR]
    exact ⟨by rw [st_n (by omega)]; exact R.n, by rw [st_n (by omega)]; exact R.k, by rw [st_n (by omega)]; exact R.texts, by rw [st_n (by omega)]; exact R.hour, by rw [st_n (by omega)]; exact R.night, by rw [st_n (by omega)]; exact R.fog, by rw [st_n (by omega)]; exact R.mist, by rw [st_n (by omega)]; exact R.seed, by rw [st_n (by omega)]; exact R.burn, fun p hp => by rw [st_n (by omega)]; exact R.oil p hp, fun p hp => by rw [st_n (by omega)]; exact R.own p hp, fun p hp => by rw [st_n (by omega)]; exact R.dark p hp, 
      fun q hq => by
      by_cases h : q = p
      · subst h; rw [st_at]; simp
      · rw [st_at' h]; simp only [h, if_false]; exact R.way q hq, fun p hp => by rw [st_n (by omega)]; exact R.pl p hp, fun p hp => by rw [st_n (by omega)]; exact R.tp p hp, fun p hp => by rw [st_n (by omega)]; exact R.hd p hp, fun p hp => by rw [st_n (by omega)]; exact R.lt p hp, fun w o hw ho hn => by rw [st_n (by omega)]; exact R.like w o hw ho hn, 
      by
      obtain ⟨c, h1, h2, h3, h4⟩ := R.log
      exact ⟨c, h1, by rw [st_n (by omega)]; exact h2, by exact h3, fun a r h => by rw [st_n (by omega)]; exact h4 a r h⟩⟩)
theorem SC.s_pl (R : SC σ B v e) (p : Nat) (x : Nat) : SC (st σ (B + 10) p (nI x)) B (v.w_pl (fun q => if q = p then x else v.pl q)) e := (by
    unfold SC
    try simp only [VR]
    exact ⟨by rw [st_n (by omega)]; exact R.n, by rw [st_n (by omega)]; exact R.k, by rw [st_n (by omega)]; exact R.texts, by rw [st_n (by omega)]; exact R.hour, by rw [st_n (by omega)]; exact R.night, by rw [st_n (by omega)]; exact R.fog, by rw [st_n (by omega)]; exact R.mist, by rw [st_n (by omega)]; exact R.seed, by rw [st_n (by omega)]; exact R.burn, fun p hp => by rw [st_n (by omega)]; exact R.oil p hp, fun p hp => by rw [st_n (by omega)]; exact R.own p hp, fun p hp => by rw [st_n (by omega)]; exact R.dark p hp, fun p hp => by rw [st_n (by omega)]; exact R.way p hp, 
      fun q hq => by
      by_cases h : q = p
      · subst h; rw [st_at]; simp
      · rw [st_at' h]; simp only [h, if_false]; exact R.pl q hq, fun p hp => by rw [st_n (by omega)]; exact R.tp p hp, fun p hp => by rw [st_n (by omega)]; exact R.hd p hp, fun p hp => by rw [st_n (by omega)]; exact R.lt p hp, fun w o hw ho hn => by rw [st_n (by omega)]; exact R.like w o hw ho hn, 
      by
      obtain ⟨c, h1, h2, h3, h4⟩ := R.log
      exact ⟨c, h1, by rw [st_n (by omega)]; exact h2, by exact h3, fun a r h => by rw [st_n (by omega)]; exact h4 a r h⟩⟩)
theorem SC.s_tp (R : SC σ B v e) (p : Nat) (x : Nat) : SC (st σ (B + 12) p (nI x)) B (v.w_tp (fun q => if q = p then x else v.tp q)) e := (by
    unfold SC
    try simp only [VR]
    exact ⟨by rw [st_n (by omega)]; exact R.n, by rw [st_n (by omega)]; exact R.k, by rw [st_n (by omega)]; exact R.texts, by rw [st_n (by omega)]; exact R.hour, by rw [st_n (by omega)]; exact R.night, by rw [st_n (by omega)]; exact R.fog, by rw [st_n (by omega)]; exact R.mist, by rw [st_n (by omega)]; exact R.seed, by rw [st_n (by omega)]; exact R.burn, fun p hp => by rw [st_n (by omega)]; exact R.oil p hp, fun p hp => by rw [st_n (by omega)]; exact R.own p hp, fun p hp => by rw [st_n (by omega)]; exact R.dark p hp, fun p hp => by rw [st_n (by omega)]; exact R.way p hp, fun p hp => by rw [st_n (by omega)]; exact R.pl p hp, 
      fun q hq => by
      by_cases h : q = p
      · subst h; rw [st_at]; simp
      · rw [st_at' h]; simp only [h, if_false]; exact R.tp q hq, fun p hp => by rw [st_n (by omega)]; exact R.hd p hp, fun p hp => by rw [st_n (by omega)]; exact R.lt p hp, fun w o hw ho hn => by rw [st_n (by omega)]; exact R.like w o hw ho hn, 
      by
      obtain ⟨c, h1, h2, h3, h4⟩ := R.log
      exact ⟨c, h1, by rw [st_n (by omega)]; exact h2, by exact h3, fun a r h => by rw [st_n (by omega)]; exact h4 a r h⟩⟩)
theorem SC.s_hd (R : SC σ B v e) (p : Nat) (x : Option Nat) : SC (st σ (B + 14) p (oI x)) B (v.w_hd (fun q => if q = p then x else v.hd q)) e := (by
    unfold SC
    try simp only [VR]
    exact ⟨by rw [st_n (by omega)]; exact R.n, by rw [st_n (by omega)]; exact R.k, by rw [st_n (by omega)]; exact R.texts, by rw [st_n (by omega)]; exact R.hour, by rw [st_n (by omega)]; exact R.night, by rw [st_n (by omega)]; exact R.fog, by rw [st_n (by omega)]; exact R.mist, by rw [st_n (by omega)]; exact R.seed, by rw [st_n (by omega)]; exact R.burn, fun p hp => by rw [st_n (by omega)]; exact R.oil p hp, fun p hp => by rw [st_n (by omega)]; exact R.own p hp, fun p hp => by rw [st_n (by omega)]; exact R.dark p hp, fun p hp => by rw [st_n (by omega)]; exact R.way p hp, fun p hp => by rw [st_n (by omega)]; exact R.pl p hp, fun p hp => by rw [st_n (by omega)]; exact R.tp p hp, 
      fun q hq => by
      by_cases h : q = p
      · subst h; rw [st_at]; simp
      · rw [st_at' h]; simp only [h, if_false]; exact R.hd q hq, fun p hp => by rw [st_n (by omega)]; exact R.lt p hp, fun w o hw ho hn => by rw [st_n (by omega)]; exact R.like w o hw ho hn, 
      by
      obtain ⟨c, h1, h2, h3, h4⟩ := R.log
      exact ⟨c, h1, by rw [st_n (by omega)]; exact h2, by exact h3, fun a r h => by rw [st_n (by omega)]; exact h4 a r h⟩⟩)
theorem SC.s_lt (R : SC σ B v e) (p : Nat) (x : Nat) : SC (st σ (B + 16) p (nI x)) B (v.w_lt (fun q => if q = p then x else v.lt q)) e := (by
    unfold SC
    try simp only [VR]
    exact ⟨by rw [st_n (by omega)]; exact R.n, by rw [st_n (by omega)]; exact R.k, by rw [st_n (by omega)]; exact R.texts, by rw [st_n (by omega)]; exact R.hour, by rw [st_n (by omega)]; exact R.night, by rw [st_n (by omega)]; exact R.fog, by rw [st_n (by omega)]; exact R.mist, by rw [st_n (by omega)]; exact R.seed, by rw [st_n (by omega)]; exact R.burn, fun p hp => by rw [st_n (by omega)]; exact R.oil p hp, fun p hp => by rw [st_n (by omega)]; exact R.own p hp, fun p hp => by rw [st_n (by omega)]; exact R.dark p hp, fun p hp => by rw [st_n (by omega)]; exact R.way p hp, fun p hp => by rw [st_n (by omega)]; exact R.pl p hp, fun p hp => by rw [st_n (by omega)]; exact R.tp p hp, fun p hp => by rw [st_n (by omega)]; exact R.hd p hp, 
      fun q hq => by
      by_cases h : q = p
      · subst h; rw [st_at]; simp
      · rw [st_at' h]; simp only [h, if_false]; exact R.lt q hq, fun w o hw ho hn => by rw [st_n (by omega)]; exact R.like w o hw ho hn, 
      by
      obtain ⟨c, h1, h2, h3, h4⟩ := R.log
      exact ⟨c, h1, by rw [st_n (by omega)]; exact h2, by exact h3, fun a r h => by rw [st_n (by omega)]; exact h4 a r h⟩⟩)
theorem SC.s_like (W : WF v) (R : SC σ B v e) {w o : Nat} (hw0 : w < v.k) (ho0 : o < v.k) (x : Nat) : SC (st σ (B + 18) (6 * w + o) (nI x)) B (v.w_like (fun w2 o2 => if w2 = w ∧ o2 = o then x else v.like w2 o2)) e := by
  have h6 := W.k6
  exact (by
    unfold SC
    try simp only [VR]
    exact ⟨by rw [st_n (by omega)]; exact R.n, by rw [st_n (by omega)]; exact R.k, by rw [st_n (by omega)]; exact R.texts, by rw [st_n (by omega)]; exact R.hour, by rw [st_n (by omega)]; exact R.night, by rw [st_n (by omega)]; exact R.fog, by rw [st_n (by omega)]; exact R.mist, by rw [st_n (by omega)]; exact R.seed, by rw [st_n (by omega)]; exact R.burn, fun p hp => by rw [st_n (by omega)]; exact R.oil p hp, fun p hp => by rw [st_n (by omega)]; exact R.own p hp, fun p hp => by rw [st_n (by omega)]; exact R.dark p hp, fun p hp => by rw [st_n (by omega)]; exact R.way p hp, fun p hp => by rw [st_n (by omega)]; exact R.pl p hp, fun p hp => by rw [st_n (by omega)]; exact R.tp p hp, fun p hp => by rw [st_n (by omega)]; exact R.hd p hp, fun p hp => by rw [st_n (by omega)]; exact R.lt p hp, 
      fun w2 o2 hw ho hn => by
      by_cases h : w2 = w ∧ o2 = o
      · obtain ⟨rfl, rfl⟩ := h; rw [st_at]; simp
      · rw [st_at' (fun z => h (by have : w2 < v.k := hw; have : o2 < v.k := ho; omega))]; simp only [h, if_false]; exact R.like w2 o2 hw ho hn, 
      by
      obtain ⟨c, h1, h2, h3, h4⟩ := R.log
      exact ⟨c, h1, by rw [st_n (by omega)]; exact h2, by exact h3, fun a r h => by rw [st_n (by omega)]; exact h4 a r h⟩⟩)
variable {a : Nat → Int32}
theorem SM.s_texts (M : SM a v) (h9 : v.n ≤ 9) (h6 : v.k ≤ 6) (h60 : v.log.length ≤ 60) (x : Nat) : SM (upd a 0 (nI x)) (v.w_texts (x)) := by
  exact (by
    unfold SM
    try simp only [VR]
    exact ⟨by simp [upd], by rw [upd, if_neg (by omega)]; exact M.n, by rw [upd, if_neg (by omega)]; exact M.k, by rw [upd, if_neg (by omega)]; exact M.hour, by rw [upd, if_neg (by omega)]; exact M.night, by rw [upd, if_neg (by omega)]; exact M.fog, by rw [upd, if_neg (by omega)]; exact M.mist, by rw [upd, if_neg (by omega)]; exact M.logs, by rw [upd, if_neg (by omega)]; exact M.seed, fun q hq => by rw [upd, if_neg (by omega)]; exact M.oil q hq, fun q hq => by rw [upd, if_neg (by omega)]; exact M.burn q hq, fun q hq => by rw [upd, if_neg (by omega)]; exact M.own q hq, fun q hq => by rw [upd, if_neg (by omega)]; exact M.dark q hq, fun q r hq hr => by rw [upd, if_neg (by omega)]; exact M.way q r hq hr, fun q hq => by rw [upd, if_neg (by omega)]; exact M.pl q hq, fun q hq => by rw [upd, if_neg (by omega)]; exact M.tp q hq, fun q hq => by rw [upd, if_neg (by omega)]; exact M.hd q hq, fun q hq => by rw [upd, if_neg (by omega)]; exact M.lt q hq, fun q r hq hr => by rw [upd, if_neg (by omega)]; exact M.like q r hq hr, 
      fun i r hi => by
      have hi2 := (List.getElem?_eq_some_iff.mp hi).1
      obtain ⟨h1, h2, h3, h4, h5⟩ := M.log i r hi
      refine ⟨?_, ?_, ?_, ?_, ?_⟩ <;> (rw [upd, if_neg (by omega)]; assumption), fun i hi => by rw [upd, if_neg (by omega)]; exact M.txt i hi⟩)
theorem SM.s_hour (M : SM a v) (h9 : v.n ≤ 9) (h6 : v.k ≤ 6) (h60 : v.log.length ≤ 60) (x : Nat) : SM (upd a 5 (nI x)) (v.w_hour (x)) := by
  exact (by
    unfold SM
    try simp only [VR]
    exact ⟨by rw [upd, if_neg (by omega)]; exact M.texts, by rw [upd, if_neg (by omega)]; exact M.n, by rw [upd, if_neg (by omega)]; exact M.k, by simp [upd], by rw [upd, if_neg (by omega)]; exact M.night, by rw [upd, if_neg (by omega)]; exact M.fog, by rw [upd, if_neg (by omega)]; exact M.mist, by rw [upd, if_neg (by omega)]; exact M.logs, by rw [upd, if_neg (by omega)]; exact M.seed, fun q hq => by rw [upd, if_neg (by omega)]; exact M.oil q hq, fun q hq => by rw [upd, if_neg (by omega)]; exact M.burn q hq, fun q hq => by rw [upd, if_neg (by omega)]; exact M.own q hq, fun q hq => by rw [upd, if_neg (by omega)]; exact M.dark q hq, fun q r hq hr => by rw [upd, if_neg (by omega)]; exact M.way q r hq hr, fun q hq => by rw [upd, if_neg (by omega)]; exact M.pl q hq, fun q hq => by rw [upd, if_neg (by omega)]; exact M.tp q hq, fun q hq => by rw [upd, if_neg (by omega)]; exact M.hd q hq, fun q hq => by rw [upd, if_neg (by omega)]; exact M.lt q hq, fun q r hq hr => by rw [upd, if_neg (by omega)]; exact M.like q r hq hr, 
      fun i r hi => by
      have hi2 := (List.getElem?_eq_some_iff.mp hi).1
      obtain ⟨h1, h2, h3, h4, h5⟩ := M.log i r hi
      refine ⟨?_, ?_, ?_, ?_, ?_⟩ <;> (rw [upd, if_neg (by omega)]; assumption), fun i hi => by rw [upd, if_neg (by omega)]; exact M.txt i hi⟩)
theorem SM.s_night (M : SM a v) (h9 : v.n ≤ 9) (h6 : v.k ≤ 6) (h60 : v.log.length ≤ 60) (x : Nat) : SM (upd a 6 (nI x)) (v.w_night (x)) := by
  exact (by
    unfold SM
    try simp only [VR]
    exact ⟨by rw [upd, if_neg (by omega)]; exact M.texts, by rw [upd, if_neg (by omega)]; exact M.n, by rw [upd, if_neg (by omega)]; exact M.k, by rw [upd, if_neg (by omega)]; exact M.hour, by simp [upd], by rw [upd, if_neg (by omega)]; exact M.fog, by rw [upd, if_neg (by omega)]; exact M.mist, by rw [upd, if_neg (by omega)]; exact M.logs, by rw [upd, if_neg (by omega)]; exact M.seed, fun q hq => by rw [upd, if_neg (by omega)]; exact M.oil q hq, fun q hq => by rw [upd, if_neg (by omega)]; exact M.burn q hq, fun q hq => by rw [upd, if_neg (by omega)]; exact M.own q hq, fun q hq => by rw [upd, if_neg (by omega)]; exact M.dark q hq, fun q r hq hr => by rw [upd, if_neg (by omega)]; exact M.way q r hq hr, fun q hq => by rw [upd, if_neg (by omega)]; exact M.pl q hq, fun q hq => by rw [upd, if_neg (by omega)]; exact M.tp q hq, fun q hq => by rw [upd, if_neg (by omega)]; exact M.hd q hq, fun q hq => by rw [upd, if_neg (by omega)]; exact M.lt q hq, fun q r hq hr => by rw [upd, if_neg (by omega)]; exact M.like q r hq hr, 
      fun i r hi => by
      have hi2 := (List.getElem?_eq_some_iff.mp hi).1
      obtain ⟨h1, h2, h3, h4, h5⟩ := M.log i r hi
      refine ⟨?_, ?_, ?_, ?_, ?_⟩ <;> (rw [upd, if_neg (by omega)]; assumption), fun i hi => by rw [upd, if_neg (by omega)]; exact M.txt i hi⟩)
theorem SM.s_fog (M : SM a v) (h9 : v.n ≤ 9) (h6 : v.k ≤ 6) (h60 : v.log.length ≤ 60) (x : Nat) : SM (upd a 7 (nI x)) (v.w_fog (x)) := by
  exact (by
    unfold SM
    try simp only [VR]
    exact ⟨by rw [upd, if_neg (by omega)]; exact M.texts, by rw [upd, if_neg (by omega)]; exact M.n, by rw [upd, if_neg (by omega)]; exact M.k, by rw [upd, if_neg (by omega)]; exact M.hour, by rw [upd, if_neg (by omega)]; exact M.night, by simp [upd], by rw [upd, if_neg (by omega)]; exact M.mist, by rw [upd, if_neg (by omega)]; exact M.logs, by rw [upd, if_neg (by omega)]; exact M.seed, fun q hq => by rw [upd, if_neg (by omega)]; exact M.oil q hq, fun q hq => by rw [upd, if_neg (by omega)]; exact M.burn q hq, fun q hq => by rw [upd, if_neg (by omega)]; exact M.own q hq, fun q hq => by rw [upd, if_neg (by omega)]; exact M.dark q hq, fun q r hq hr => by rw [upd, if_neg (by omega)]; exact M.way q r hq hr, fun q hq => by rw [upd, if_neg (by omega)]; exact M.pl q hq, fun q hq => by rw [upd, if_neg (by omega)]; exact M.tp q hq, fun q hq => by rw [upd, if_neg (by omega)]; exact M.hd q hq, fun q hq => by rw [upd, if_neg (by omega)]; exact M.lt q hq, fun q r hq hr => by rw [upd, if_neg (by omega)]; exact M.like q r hq hr, 
      fun i r hi => by
      have hi2 := (List.getElem?_eq_some_iff.mp hi).1
      obtain ⟨h1, h2, h3, h4, h5⟩ := M.log i r hi
      refine ⟨?_, ?_, ?_, ?_, ?_⟩ <;> (rw [upd, if_neg (by omega)]; assumption), fun i hi => by rw [upd, if_neg (by omega)]; exact M.txt i hi⟩)
theorem SM.s_mist (M : SM a v) (h9 : v.n ≤ 9) (h6 : v.k ≤ 6) (h60 : v.log.length ≤ 60) (x : Bool) : SM (upd a 8 (b2i x)) (v.w_mist (x)) := by
  exact (by
    unfold SM
    try simp only [VR]
    exact ⟨by rw [upd, if_neg (by omega)]; exact M.texts, by rw [upd, if_neg (by omega)]; exact M.n, by rw [upd, if_neg (by omega)]; exact M.k, by rw [upd, if_neg (by omega)]; exact M.hour, by rw [upd, if_neg (by omega)]; exact M.night, by rw [upd, if_neg (by omega)]; exact M.fog, by simp [upd], by rw [upd, if_neg (by omega)]; exact M.logs, by rw [upd, if_neg (by omega)]; exact M.seed, fun q hq => by rw [upd, if_neg (by omega)]; exact M.oil q hq, fun q hq => by rw [upd, if_neg (by omega)]; exact M.burn q hq, fun q hq => by rw [upd, if_neg (by omega)]; exact M.own q hq, fun q hq => by rw [upd, if_neg (by omega)]; exact M.dark q hq, fun q r hq hr => by rw [upd, if_neg (by omega)]; exact M.way q r hq hr, fun q hq => by rw [upd, if_neg (by omega)]; exact M.pl q hq, fun q hq => by rw [upd, if_neg (by omega)]; exact M.tp q hq, fun q hq => by rw [upd, if_neg (by omega)]; exact M.hd q hq, fun q hq => by rw [upd, if_neg (by omega)]; exact M.lt q hq, fun q r hq hr => by rw [upd, if_neg (by omega)]; exact M.like q r hq hr, 
      fun i r hi => by
      have hi2 := (List.getElem?_eq_some_iff.mp hi).1
      obtain ⟨h1, h2, h3, h4, h5⟩ := M.log i r hi
      refine ⟨?_, ?_, ?_, ?_, ?_⟩ <;> (rw [upd, if_neg (by omega)]; assumption), fun i hi => by rw [upd, if_neg (by omega)]; exact M.txt i hi⟩)
theorem SM.s_seed (M : SM a v) (h9 : v.n ≤ 9) (h6 : v.k ≤ 6) (h60 : v.log.length ≤ 60) (x : Int32) : SM (upd a 10 (x)) (v.w_seed (x)) := by
  exact (by
    unfold SM
    try simp only [VR]
    exact ⟨by rw [upd, if_neg (by omega)]; exact M.texts, by rw [upd, if_neg (by omega)]; exact M.n, by rw [upd, if_neg (by omega)]; exact M.k, by rw [upd, if_neg (by omega)]; exact M.hour, by rw [upd, if_neg (by omega)]; exact M.night, by rw [upd, if_neg (by omega)]; exact M.fog, by rw [upd, if_neg (by omega)]; exact M.mist, by rw [upd, if_neg (by omega)]; exact M.logs, by simp [upd], fun q hq => by rw [upd, if_neg (by omega)]; exact M.oil q hq, fun q hq => by rw [upd, if_neg (by omega)]; exact M.burn q hq, fun q hq => by rw [upd, if_neg (by omega)]; exact M.own q hq, fun q hq => by rw [upd, if_neg (by omega)]; exact M.dark q hq, fun q r hq hr => by rw [upd, if_neg (by omega)]; exact M.way q r hq hr, fun q hq => by rw [upd, if_neg (by omega)]; exact M.pl q hq, fun q hq => by rw [upd, if_neg (by omega)]; exact M.tp q hq, fun q hq => by rw [upd, if_neg (by omega)]; exact M.hd q hq, fun q hq => by rw [upd, if_neg (by omega)]; exact M.lt q hq, fun q r hq hr => by rw [upd, if_neg (by omega)]; exact M.like q r hq hr, 
      fun i r hi => by
      have hi2 := (List.getElem?_eq_some_iff.mp hi).1
      obtain ⟨h1, h2, h3, h4, h5⟩ := M.log i r hi
      refine ⟨?_, ?_, ?_, ?_, ?_⟩ <;> (rw [upd, if_neg (by omega)]; assumption), fun i hi => by rw [upd, if_neg (by omega)]; exact M.txt i hi⟩)
theorem SM.s_oil (M : SM a v) (h9 : v.n ≤ 9) (h6 : v.k ≤ 6) (h60 : v.log.length ≤ 60) {p : Nat} (hp : p < v.n) (x : Nat) : SM (upd a (11 + 4 * p) (nI x)) (v.w_oil (fun q => if q = p then x else v.oil q)) := by
  exact (by
    unfold SM
    try simp only [VR]
    exact ⟨by rw [upd, if_neg (by omega)]; exact M.texts, by rw [upd, if_neg (by omega)]; exact M.n, by rw [upd, if_neg (by omega)]; exact M.k, by rw [upd, if_neg (by omega)]; exact M.hour, by rw [upd, if_neg (by omega)]; exact M.night, by rw [upd, if_neg (by omega)]; exact M.fog, by rw [upd, if_neg (by omega)]; exact M.mist, by rw [upd, if_neg (by omega)]; exact M.logs, by rw [upd, if_neg (by omega)]; exact M.seed, 
      fun q hq => by
      by_cases h : q = p
      · subst h; simp [upd]
      · rw [upd, if_neg (by omega)]; simp only [h, if_false]; exact M.oil q hq, fun q hq => by rw [upd, if_neg (by omega)]; exact M.burn q hq, fun q hq => by rw [upd, if_neg (by omega)]; exact M.own q hq, fun q hq => by rw [upd, if_neg (by omega)]; exact M.dark q hq, fun q r hq hr => by rw [upd, if_neg (by omega)]; exact M.way q r hq hr, fun q hq => by rw [upd, if_neg (by omega)]; exact M.pl q hq, fun q hq => by rw [upd, if_neg (by omega)]; exact M.tp q hq, fun q hq => by rw [upd, if_neg (by omega)]; exact M.hd q hq, fun q hq => by rw [upd, if_neg (by omega)]; exact M.lt q hq, fun q r hq hr => by rw [upd, if_neg (by omega)]; exact M.like q r hq hr, 
      fun i r hi => by
      have hi2 := (List.getElem?_eq_some_iff.mp hi).1
      obtain ⟨h1, h2, h3, h4, h5⟩ := M.log i r hi
      refine ⟨?_, ?_, ?_, ?_, ?_⟩ <;> (rw [upd, if_neg (by omega)]; assumption), fun i hi => by rw [upd, if_neg (by omega)]; exact M.txt i hi⟩)
theorem SM.s_burn (M : SM a v) (h9 : v.n ≤ 9) (h6 : v.k ≤ 6) (h60 : v.log.length ≤ 60) {p : Nat} (hp : p < v.n) (x : Bool) : SM (upd a (11 + 4 * p + 1) (b2i x)) (v.w_burn (fun q => if q = p then x else v.burn q)) := by
  exact (by
    unfold SM
    try simp only [VR]
    exact ⟨by rw [upd, if_neg (by omega)]; exact M.texts, by rw [upd, if_neg (by omega)]; exact M.n, by rw [upd, if_neg (by omega)]; exact M.k, by rw [upd, if_neg (by omega)]; exact M.hour, by rw [upd, if_neg (by omega)]; exact M.night, by rw [upd, if_neg (by omega)]; exact M.fog, by rw [upd, if_neg (by omega)]; exact M.mist, by rw [upd, if_neg (by omega)]; exact M.logs, by rw [upd, if_neg (by omega)]; exact M.seed, fun q hq => by rw [upd, if_neg (by omega)]; exact M.oil q hq, 
      fun q hq => by
      by_cases h : q = p
      · subst h; simp [upd]
      · rw [upd, if_neg (by omega)]; simp only [h, if_false]; exact M.burn q hq, fun q hq => by rw [upd, if_neg (by omega)]; exact M.own q hq, fun q hq => by rw [upd, if_neg (by omega)]; exact M.dark q hq, fun q r hq hr => by rw [upd, if_neg (by omega)]; exact M.way q r hq hr, fun q hq => by rw [upd, if_neg (by omega)]; exact M.pl q hq, fun q hq => by rw [upd, if_neg (by omega)]; exact M.tp q hq, fun q hq => by rw [upd, if_neg (by omega)]; exact M.hd q hq, fun q hq => by rw [upd, if_neg (by omega)]; exact M.lt q hq, fun q r hq hr => by rw [upd, if_neg (by omega)]; exact M.like q r hq hr, 
      fun i r hi => by
      have hi2 := (List.getElem?_eq_some_iff.mp hi).1
      obtain ⟨h1, h2, h3, h4, h5⟩ := M.log i r hi
      refine ⟨?_, ?_, ?_, ?_, ?_⟩ <;> (rw [upd, if_neg (by omega)]; assumption), fun i hi => by rw [upd, if_neg (by omega)]; exact M.txt i hi⟩)
theorem SM.s_own (M : SM a v) (h9 : v.n ≤ 9) (h6 : v.k ≤ 6) (h60 : v.log.length ≤ 60) {p : Nat} (hp : p < v.n) (x : Option Nat) : SM (upd a (11 + 4 * p + 2) (oI x)) (v.w_own (fun q => if q = p then x else v.own q)) := by
  exact (by
    unfold SM
    try simp only [VR]
    exact ⟨by rw [upd, if_neg (by omega)]; exact M.texts, by rw [upd, if_neg (by omega)]; exact M.n, by rw [upd, if_neg (by omega)]; exact M.k, by rw [upd, if_neg (by omega)]; exact M.hour, by rw [upd, if_neg (by omega)]; exact M.night, by rw [upd, if_neg (by omega)]; exact M.fog, by rw [upd, if_neg (by omega)]; exact M.mist, by rw [upd, if_neg (by omega)]; exact M.logs, by rw [upd, if_neg (by omega)]; exact M.seed, fun q hq => by rw [upd, if_neg (by omega)]; exact M.oil q hq, fun q hq => by rw [upd, if_neg (by omega)]; exact M.burn q hq, 
      fun q hq => by
      by_cases h : q = p
      · subst h; simp [upd]
      · rw [upd, if_neg (by omega)]; simp only [h, if_false]; exact M.own q hq, fun q hq => by rw [upd, if_neg (by omega)]; exact M.dark q hq, fun q r hq hr => by rw [upd, if_neg (by omega)]; exact M.way q r hq hr, fun q hq => by rw [upd, if_neg (by omega)]; exact M.pl q hq, fun q hq => by rw [upd, if_neg (by omega)]; exact M.tp q hq, fun q hq => by rw [upd, if_neg (by omega)]; exact M.hd q hq, fun q hq => by rw [upd, if_neg (by omega)]; exact M.lt q hq, fun q r hq hr => by rw [upd, if_neg (by omega)]; exact M.like q r hq hr, 
      fun i r hi => by
      have hi2 := (List.getElem?_eq_some_iff.mp hi).1
      obtain ⟨h1, h2, h3, h4, h5⟩ := M.log i r hi
      refine ⟨?_, ?_, ?_, ?_, ?_⟩ <;> (rw [upd, if_neg (by omega)]; assumption), fun i hi => by rw [upd, if_neg (by omega)]; exact M.txt i hi⟩)
theorem SM.s_dark (M : SM a v) (h9 : v.n ≤ 9) (h6 : v.k ≤ 6) (h60 : v.log.length ≤ 60) {p : Nat} (hp : p < v.n) (x : Nat) : SM (upd a (11 + 4 * p + 3) (nI x)) (v.w_dark (fun q => if q = p then x else v.dark q)) := by
  exact (by
    unfold SM
    try simp only [VR]
    exact ⟨by rw [upd, if_neg (by omega)]; exact M.texts, by rw [upd, if_neg (by omega)]; exact M.n, by rw [upd, if_neg (by omega)]; exact M.k, by rw [upd, if_neg (by omega)]; exact M.hour, by rw [upd, if_neg (by omega)]; exact M.night, by rw [upd, if_neg (by omega)]; exact M.fog, by rw [upd, if_neg (by omega)]; exact M.mist, by rw [upd, if_neg (by omega)]; exact M.logs, by rw [upd, if_neg (by omega)]; exact M.seed, fun q hq => by rw [upd, if_neg (by omega)]; exact M.oil q hq, fun q hq => by rw [upd, if_neg (by omega)]; exact M.burn q hq, fun q hq => by rw [upd, if_neg (by omega)]; exact M.own q hq, 
      fun q hq => by
      by_cases h : q = p
      · subst h; simp [upd]
      · rw [upd, if_neg (by omega)]; simp only [h, if_false]; exact M.dark q hq, fun q r hq hr => by rw [upd, if_neg (by omega)]; exact M.way q r hq hr, fun q hq => by rw [upd, if_neg (by omega)]; exact M.pl q hq, fun q hq => by rw [upd, if_neg (by omega)]; exact M.tp q hq, fun q hq => by rw [upd, if_neg (by omega)]; exact M.hd q hq, fun q hq => by rw [upd, if_neg (by omega)]; exact M.lt q hq, fun q r hq hr => by rw [upd, if_neg (by omega)]; exact M.like q r hq hr, 
      fun i r hi => by
      have hi2 := (List.getElem?_eq_some_iff.mp hi).1
      obtain ⟨h1, h2, h3, h4, h5⟩ := M.log i r hi
      refine ⟨?_, ?_, ?_, ?_, ?_⟩ <;> (rw [upd, if_neg (by omega)]; assumption), fun i hi => by rw [upd, if_neg (by omega)]; exact M.txt i hi⟩)
theorem SM.s_pl (M : SM a v) (h9 : v.n ≤ 9) (h6 : v.k ≤ 6) (h60 : v.log.length ≤ 60) {p : Nat} (hp : p < v.k) (x : Nat) : SM (upd a (128 + 4 * p) (nI x)) (v.w_pl (fun q => if q = p then x else v.pl q)) := by
  exact (by
    unfold SM
    try simp only [VR]
    exact ⟨by rw [upd, if_neg (by omega)]; exact M.texts, by rw [upd, if_neg (by omega)]; exact M.n, by rw [upd, if_neg (by omega)]; exact M.k, by rw [upd, if_neg (by omega)]; exact M.hour, by rw [upd, if_neg (by omega)]; exact M.night, by rw [upd, if_neg (by omega)]; exact M.fog, by rw [upd, if_neg (by omega)]; exact M.mist, by rw [upd, if_neg (by omega)]; exact M.logs, by rw [upd, if_neg (by omega)]; exact M.seed, fun q hq => by rw [upd, if_neg (by omega)]; exact M.oil q hq, fun q hq => by rw [upd, if_neg (by omega)]; exact M.burn q hq, fun q hq => by rw [upd, if_neg (by omega)]; exact M.own q hq, fun q hq => by rw [upd, if_neg (by omega)]; exact M.dark q hq, fun q r hq hr => by rw [upd, if_neg (by omega)]; exact M.way q r hq hr, 
      fun q hq => by
      by_cases h : q = p
      · subst h; simp [upd]
      · rw [upd, if_neg (by omega)]; simp only [h, if_false]; exact M.pl q hq, fun q hq => by rw [upd, if_neg (by omega)]; exact M.tp q hq, fun q hq => by rw [upd, if_neg (by omega)]; exact M.hd q hq, fun q hq => by rw [upd, if_neg (by omega)]; exact M.lt q hq, fun q r hq hr => by rw [upd, if_neg (by omega)]; exact M.like q r hq hr, 
      fun i r hi => by
      have hi2 := (List.getElem?_eq_some_iff.mp hi).1
      obtain ⟨h1, h2, h3, h4, h5⟩ := M.log i r hi
      refine ⟨?_, ?_, ?_, ?_, ?_⟩ <;> (rw [upd, if_neg (by omega)]; assumption), fun i hi => by rw [upd, if_neg (by omega)]; exact M.txt i hi⟩)
theorem SM.s_tp (M : SM a v) (h9 : v.n ≤ 9) (h6 : v.k ≤ 6) (h60 : v.log.length ≤ 60) {p : Nat} (hp : p < v.k) (x : Nat) : SM (upd a (128 + 4 * p + 1) (nI x)) (v.w_tp (fun q => if q = p then x else v.tp q)) := by
  exact (by
    unfold SM
    try simp only [VR]
    exact ⟨by rw [upd, if_neg (by omega)]; exact M.texts, by rw [upd, if_neg (by omega)]; exact M.n, by rw [upd, if_neg (by omega)]; exact M.k, by rw [upd, if_neg (by omega)]; exact M.hour, by rw [upd, if_neg (by omega)]; exact M.night, by rw [upd, if_neg (by omega)]; exact M.fog, by rw [upd, if_neg (by omega)]; exact M.mist, by rw [upd, if_neg (by omega)]; exact M.logs, by rw [upd, if_neg (by omega)]; exact M.seed, fun q hq => by rw [upd, if_neg (by omega)]; exact M.oil q hq, fun q hq => by rw [upd, if_neg (by omega)]; exact M.burn q hq, fun q hq => by rw [upd, if_neg (by omega)]; exact M.own q hq, fun q hq => by rw [upd, if_neg (by omega)]; exact M.dark q hq, fun q r hq hr => by rw [upd, if_neg (by omega)]; exact M.way q r hq hr, fun q hq => by rw [upd, if_neg (by omega)]; exact M.pl q hq, 
      fun q hq => by
      by_cases h : q = p
      · subst h; simp [upd]
      · rw [upd, if_neg (by omega)]; simp only [h, if_false]; exact M.tp q hq, fun q hq => by rw [upd, if_neg (by omega)]; exact M.hd q hq, fun q hq => by rw [upd, if_neg (by omega)]; exact M.lt q hq, fun q r hq hr => by rw [upd, if_neg (by omega)]; exact M.like q r hq hr, 
      fun i r hi => by
      have hi2 := (List.getElem?_eq_some_iff.mp hi).1
      obtain ⟨h1, h2, h3, h4, h5⟩ := M.log i r hi
      refine ⟨?_, ?_, ?_, ?_, ?_⟩ <;> (rw [upd, if_neg (by omega)]; assumption), fun i hi => by rw [upd, if_neg (by omega)]; exact M.txt i hi⟩)
theorem SM.s_hd (M : SM a v) (h9 : v.n ≤ 9) (h6 : v.k ≤ 6) (h60 : v.log.length ≤ 60) {p : Nat} (hp : p < v.k) (x : Option Nat) : SM (upd a (128 + 4 * p + 2) (oI x)) (v.w_hd (fun q => if q = p then x else v.hd q)) := by
  exact (by
    unfold SM
    try simp only [VR]
    exact ⟨by rw [upd, if_neg (by omega)]; exact M.texts, by rw [upd, if_neg (by omega)]; exact M.n, by rw [upd, if_neg (by omega)]; exact M.k, by rw [upd, if_neg (by omega)]; exact M.hour, by rw [upd, if_neg (by omega)]; exact M.night, by rw [upd, if_neg (by omega)]; exact M.fog, by rw [upd, if_neg (by omega)]; exact M.mist, by rw [upd, if_neg (by omega)]; exact M.logs, by rw [upd, if_neg (by omega)]; exact M.seed, fun q hq => by rw [upd, if_neg (by omega)]; exact M.oil q hq, fun q hq => by rw [upd, if_neg (by omega)]; exact M.burn q hq, fun q hq => by rw [upd, if_neg (by omega)]; exact M.own q hq, fun q hq => by rw [upd, if_neg (by omega)]; exact M.dark q hq, fun q r hq hr => by rw [upd, if_neg (by omega)]; exact M.way q r hq hr, fun q hq => by rw [upd, if_neg (by omega)]; exact M.pl q hq, fun q hq => by rw [upd, if_neg (by omega)]; exact M.tp q hq, 
      fun q hq => by
      by_cases h : q = p
      · subst h; simp [upd]
      · rw [upd, if_neg (by omega)]; simp only [h, if_false]; exact M.hd q hq, fun q hq => by rw [upd, if_neg (by omega)]; exact M.lt q hq, fun q r hq hr => by rw [upd, if_neg (by omega)]; exact M.like q r hq hr, 
      fun i r hi => by
      have hi2 := (List.getElem?_eq_some_iff.mp hi).1
      obtain ⟨h1, h2, h3, h4, h5⟩ := M.log i r hi
      refine ⟨?_, ?_, ?_, ?_, ?_⟩ <;> (rw [upd, if_neg (by omega)]; assumption), fun i hi => by rw [upd, if_neg (by omega)]; exact M.txt i hi⟩)
theorem SM.s_lt (M : SM a v) (h9 : v.n ≤ 9) (h6 : v.k ≤ 6) (h60 : v.log.length ≤ 60) {p : Nat} (hp : p < v.k) (x : Nat) : SM (upd a (128 + 4 * p + 3) (nI x)) (v.w_lt (fun q => if q = p then x else v.lt q)) := by
  exact (by
    unfold SM
    try simp only [VR]
    exact ⟨by rw [upd, if_neg (by omega)]; exact M.texts, by rw [upd, if_neg (by omega)]; exact M.n, by rw [upd, if_neg (by omega)]; exact M.k, by rw [upd, if_neg (by omega)]; exact M.hour, by rw [upd, if_neg (by omega)]; exact M.night, by rw [upd, if_neg (by omega)]; exact M.fog, by rw [upd, if_neg (by omega)]; exact M.mist, by rw [upd, if_neg (by omega)]; exact M.logs, by rw [upd, if_neg (by omega)]; exact M.seed, fun q hq => by rw [upd, if_neg (by omega)]; exact M.oil q hq, fun q hq => by rw [upd, if_neg (by omega)]; exact M.burn q hq, fun q hq => by rw [upd, if_neg (by omega)]; exact M.own q hq, fun q hq => by rw [upd, if_neg (by omega)]; exact M.dark q hq, fun q r hq hr => by rw [upd, if_neg (by omega)]; exact M.way q r hq hr, fun q hq => by rw [upd, if_neg (by omega)]; exact M.pl q hq, fun q hq => by rw [upd, if_neg (by omega)]; exact M.tp q hq, fun q hq => by rw [upd, if_neg (by omega)]; exact M.hd q hq, 
      fun q hq => by
      by_cases h : q = p
      · subst h; simp [upd]
      · rw [upd, if_neg (by omega)]; simp only [h, if_false]; exact M.lt q hq, fun q r hq hr => by rw [upd, if_neg (by omega)]; exact M.like q r hq hr, 
      fun i r hi => by
      have hi2 := (List.getElem?_eq_some_iff.mp hi).1
      obtain ⟨h1, h2, h3, h4, h5⟩ := M.log i r hi
      refine ⟨?_, ?_, ?_, ?_, ?_⟩ <;> (rw [upd, if_neg (by omega)]; assumption), fun i hi => by rw [upd, if_neg (by omega)]; exact M.txt i hi⟩)
theorem SM.s_like (M : SM a v) (h9 : v.n ≤ 9) (h6 : v.k ≤ 6) (h60 : v.log.length ≤ 60) {w o : Nat} (hw0 : w < v.k) (ho0 : o < v.k) (x : Nat) : SM (upd a (152 + 6 * w + o) (nI x)) (v.w_like (fun w2 o2 => if w2 = w ∧ o2 = o then x else v.like w2 o2)) := by
  exact (by
    unfold SM
    try simp only [VR]
    exact ⟨by rw [upd, if_neg (by omega)]; exact M.texts, by rw [upd, if_neg (by omega)]; exact M.n, by rw [upd, if_neg (by omega)]; exact M.k, by rw [upd, if_neg (by omega)]; exact M.hour, by rw [upd, if_neg (by omega)]; exact M.night, by rw [upd, if_neg (by omega)]; exact M.fog, by rw [upd, if_neg (by omega)]; exact M.mist, by rw [upd, if_neg (by omega)]; exact M.logs, by rw [upd, if_neg (by omega)]; exact M.seed, fun q hq => by rw [upd, if_neg (by omega)]; exact M.oil q hq, fun q hq => by rw [upd, if_neg (by omega)]; exact M.burn q hq, fun q hq => by rw [upd, if_neg (by omega)]; exact M.own q hq, fun q hq => by rw [upd, if_neg (by omega)]; exact M.dark q hq, fun q r hq hr => by rw [upd, if_neg (by omega)]; exact M.way q r hq hr, fun q hq => by rw [upd, if_neg (by omega)]; exact M.pl q hq, fun q hq => by rw [upd, if_neg (by omega)]; exact M.tp q hq, fun q hq => by rw [upd, if_neg (by omega)]; exact M.hd q hq, fun q hq => by rw [upd, if_neg (by omega)]; exact M.lt q hq, 
      fun w2 o2 hw ho => by
      have h1 : w2 < v.k := hw
      have h2 : o2 < v.k := ho
      by_cases h : w2 = w ∧ o2 = o
      · obtain ⟨rfl, rfl⟩ := h; simp [upd]
      · rw [upd, if_neg (fun z => h (by omega))]; simp only [h, if_false]; exact M.like w2 o2 hw ho, 
      fun i r hi => by
      have hi2 := (List.getElem?_eq_some_iff.mp hi).1
      obtain ⟨h1, h2, h3, h4, h5⟩ := M.log i r hi
      refine ⟨?_, ?_, ?_, ?_, ?_⟩ <;> (rw [upd, if_neg (by omega)]; assumption), fun i hi => by rw [upd, if_neg (by omega)]; exact M.txt i hi⟩)
theorem SM.s_oil' (M : SM a v) (h9 : v.n ≤ 9) (h6 : v.k ≤ 6) (h60 : v.log.length ≤ 60) {p : Nat} (hp : p < v.n) (x : Nat) : SM (upd a (11 + 4 * p) (nI x)) (v.w_oil (fun q => if q = p then x else v.oil q)) := by
  exact (by
    unfold SM
    try simp only [VR]
    exact ⟨by rw [upd, if_neg (by omega)]; exact M.texts, by rw [upd, if_neg (by omega)]; exact M.n, by rw [upd, if_neg (by omega)]; exact M.k, by rw [upd, if_neg (by omega)]; exact M.hour, by rw [upd, if_neg (by omega)]; exact M.night, by rw [upd, if_neg (by omega)]; exact M.fog, by rw [upd, if_neg (by omega)]; exact M.mist, by rw [upd, if_neg (by omega)]; exact M.logs, by rw [upd, if_neg (by omega)]; exact M.seed, 
      fun q hq => by
      by_cases h : q = p
      · subst h; simp [upd]
      · rw [upd, if_neg (by omega)]; simp only [h, if_false]; exact M.oil q hq, fun q hq => by rw [upd, if_neg (by omega)]; exact M.burn q hq, fun q hq => by rw [upd, if_neg (by omega)]; exact M.own q hq, fun q hq => by rw [upd, if_neg (by omega)]; exact M.dark q hq, fun q r hq hr => by rw [upd, if_neg (by omega)]; exact M.way q r hq hr, fun q hq => by rw [upd, if_neg (by omega)]; exact M.pl q hq, fun q hq => by rw [upd, if_neg (by omega)]; exact M.tp q hq, fun q hq => by rw [upd, if_neg (by omega)]; exact M.hd q hq, fun q hq => by rw [upd, if_neg (by omega)]; exact M.lt q hq, fun q r hq hr => by rw [upd, if_neg (by omega)]; exact M.like q r hq hr, 
      fun i r hi => by
      have hi2 := (List.getElem?_eq_some_iff.mp hi).1
      obtain ⟨h1, h2, h3, h4, h5⟩ := M.log i r hi
      refine ⟨?_, ?_, ?_, ?_, ?_⟩ <;> (rw [upd, if_neg (by omega)]; assumption), fun i hi => by rw [upd, if_neg (by omega)]; exact M.txt i hi⟩)
theorem SM.s_burn' (M : SM a v) (h9 : v.n ≤ 9) (h6 : v.k ≤ 6) (h60 : v.log.length ≤ 60) {p : Nat} (hp : p < v.n) (x : Bool) : SM (upd a (11 + 4 * p + 1) (b2i x)) (v.w_burn (fun q => if q = p then x else v.burn q)) := by
  exact (by
    unfold SM
    try simp only [VR]
    exact ⟨by rw [upd, if_neg (by omega)]; exact M.texts, by rw [upd, if_neg (by omega)]; exact M.n, by rw [upd, if_neg (by omega)]; exact M.k, by rw [upd, if_neg (by omega)]; exact M.hour, by rw [upd, if_neg (by omega)]; exact M.night, by rw [upd, if_neg (by omega)]; exact M.fog, by rw [upd, if_neg (by omega)]; exact M.mist, by rw [upd, if_neg (by omega)]; exact M.logs, by rw [upd, if_neg (by omega)]; exact M.seed, fun q hq => by rw [upd, if_neg (by omega)]; exact M.oil q hq, 
      fun q hq => by
      by_cases h : q = p
      · subst h; simp [upd]
      · rw [upd, if_neg (by omega)]; simp only [h, if_false]; exact M.burn q hq, fun q hq => by rw [upd, if_neg (by omega)]; exact M.own q hq, fun q hq => by rw [upd, if_neg (by omega)]; exact M.dark q hq, fun q r hq hr => by rw [upd, if_neg (by omega)]; exact M.way q r hq hr, fun q hq => by rw [upd, if_neg (by omega)]; exact M.pl q hq, fun q hq => by rw [upd, if_neg (by omega)]; exact M.tp q hq, fun q hq => by rw [upd, if_neg (by omega)]; exact M.hd q hq, fun q hq => by rw [upd, if_neg (by omega)]; exact M.lt q hq, fun q r hq hr => by rw [upd, if_neg (by omega)]; exact M.like q r hq hr, 
      fun i r hi => by
      have hi2 := (List.getElem?_eq_some_iff.mp hi).1
      obtain ⟨h1, h2, h3, h4, h5⟩ := M.log i r hi
      refine ⟨?_, ?_, ?_, ?_, ?_⟩ <;> (rw [upd, if_neg (by omega)]; assumption), fun i hi => by rw [upd, if_neg (by omega)]; exact M.txt i hi⟩)
theorem SM.s_own' (M : SM a v) (h9 : v.n ≤ 9) (h6 : v.k ≤ 6) (h60 : v.log.length ≤ 60) {p : Nat} (hp : p < v.n) (x : Option Nat) : SM (upd a (11 + 4 * p + 2) (oI x)) (v.w_own (fun q => if q = p then x else v.own q)) := by
  exact (by
    unfold SM
    try simp only [VR]
    exact ⟨by rw [upd, if_neg (by omega)]; exact M.texts, by rw [upd, if_neg (by omega)]; exact M.n, by rw [upd, if_neg (by omega)]; exact M.k, by rw [upd, if_neg (by omega)]; exact M.hour, by rw [upd, if_neg (by omega)]; exact M.night, by rw [upd, if_neg (by omega)]; exact M.fog, by rw [upd, if_neg (by omega)]; exact M.mist, by rw [upd, if_neg (by omega)]; exact M.logs, by rw [upd, if_neg (by omega)]; exact M.seed, fun q hq => by rw [upd, if_neg (by omega)]; exact M.oil q hq, fun q hq => by rw [upd, if_neg (by omega)]; exact M.burn q hq, 
      fun q hq => by
      by_cases h : q = p
      · subst h; simp [upd]
      · rw [upd, if_neg (by omega)]; simp only [h, if_false]; exact M.own q hq, fun q hq => by rw [upd, if_neg (by omega)]; exact M.dark q hq, fun q r hq hr => by rw [upd, if_neg (by omega)]; exact M.way q r hq hr, fun q hq => by rw [upd, if_neg (by omega)]; exact M.pl q hq, fun q hq => by rw [upd, if_neg (by omega)]; exact M.tp q hq, fun q hq => by rw [upd, if_neg (by omega)]; exact M.hd q hq, fun q hq => by rw [upd, if_neg (by omega)]; exact M.lt q hq, fun q r hq hr => by rw [upd, if_neg (by omega)]; exact M.like q r hq hr, 
      fun i r hi => by
      have hi2 := (List.getElem?_eq_some_iff.mp hi).1
      obtain ⟨h1, h2, h3, h4, h5⟩ := M.log i r hi
      refine ⟨?_, ?_, ?_, ?_, ?_⟩ <;> (rw [upd, if_neg (by omega)]; assumption), fun i hi => by rw [upd, if_neg (by omega)]; exact M.txt i hi⟩)
theorem SM.s_dark' (M : SM a v) (h9 : v.n ≤ 9) (h6 : v.k ≤ 6) (h60 : v.log.length ≤ 60) {p : Nat} (hp : p < v.n) (x : Nat) : SM (upd a (11 + 4 * p + 3) (nI x)) (v.w_dark (fun q => if q = p then x else v.dark q)) := by
  exact (by
    unfold SM
    try simp only [VR]
    exact ⟨by rw [upd, if_neg (by omega)]; exact M.texts, by rw [upd, if_neg (by omega)]; exact M.n, by rw [upd, if_neg (by omega)]; exact M.k, by rw [upd, if_neg (by omega)]; exact M.hour, by rw [upd, if_neg (by omega)]; exact M.night, by rw [upd, if_neg (by omega)]; exact M.fog, by rw [upd, if_neg (by omega)]; exact M.mist, by rw [upd, if_neg (by omega)]; exact M.logs, by rw [upd, if_neg (by omega)]; exact M.seed, fun q hq => by rw [upd, if_neg (by omega)]; exact M.oil q hq, fun q hq => by rw [upd, if_neg (by omega)]; exact M.burn q hq, fun q hq => by rw [upd, if_neg (by omega)]; exact M.own q hq, 
      fun q hq => by
      by_cases h : q = p
      · subst h; simp [upd]
      · rw [upd, if_neg (by omega)]; simp only [h, if_false]; exact M.dark q hq, fun q r hq hr => by rw [upd, if_neg (by omega)]; exact M.way q r hq hr, fun q hq => by rw [upd, if_neg (by omega)]; exact M.pl q hq, fun q hq => by rw [upd, if_neg (by omega)]; exact M.tp q hq, fun q hq => by rw [upd, if_neg (by omega)]; exact M.hd q hq, fun q hq => by rw [upd, if_neg (by omega)]; exact M.lt q hq, fun q r hq hr => by rw [upd, if_neg (by omega)]; exact M.like q r hq hr, 
      fun i r hi => by
      have hi2 := (List.getElem?_eq_some_iff.mp hi).1
      obtain ⟨h1, h2, h3, h4, h5⟩ := M.log i r hi
      refine ⟨?_, ?_, ?_, ?_, ?_⟩ <;> (rw [upd, if_neg (by omega)]; assumption), fun i hi => by rw [upd, if_neg (by omega)]; exact M.txt i hi⟩)
theorem SM.s_pl' (M : SM a v) (h9 : v.n ≤ 9) (h6 : v.k ≤ 6) (h60 : v.log.length ≤ 60) {p : Nat} (hp : p < v.k) (x : Nat) : SM (upd a (128 + 4 * p) (nI x)) (v.w_pl (fun q => if q = p then x else v.pl q)) := by
  exact (by
    unfold SM
    try simp only [VR]
    exact ⟨by rw [upd, if_neg (by omega)]; exact M.texts, by rw [upd, if_neg (by omega)]; exact M.n, by rw [upd, if_neg (by omega)]; exact M.k, by rw [upd, if_neg (by omega)]; exact M.hour, by rw [upd, if_neg (by omega)]; exact M.night, by rw [upd, if_neg (by omega)]; exact M.fog, by rw [upd, if_neg (by omega)]; exact M.mist, by rw [upd, if_neg (by omega)]; exact M.logs, by rw [upd, if_neg (by omega)]; exact M.seed, fun q hq => by rw [upd, if_neg (by omega)]; exact M.oil q hq, fun q hq => by rw [upd, if_neg (by omega)]; exact M.burn q hq, fun q hq => by rw [upd, if_neg (by omega)]; exact M.own q hq, fun q hq => by rw [upd, if_neg (by omega)]; exact M.dark q hq, fun q r hq hr => by rw [upd, if_neg (by omega)]; exact M.way q r hq hr, 
      fun q hq => by
      by_cases h : q = p
      · subst h; simp [upd]
      · rw [upd, if_neg (by omega)]; simp only [h, if_false]; exact M.pl q hq, fun q hq => by rw [upd, if_neg (by omega)]; exact M.tp q hq, fun q hq => by rw [upd, if_neg (by omega)]; exact M.hd q hq, fun q hq => by rw [upd, if_neg (by omega)]; exact M.lt q hq, fun q r hq hr => by rw [upd, if_neg (by omega)]; exact M.like q r hq hr, 
      fun i r hi => by
      have hi2 := (List.getElem?_eq_some_iff.mp hi).1
      obtain ⟨h1, h2, h3, h4, h5⟩ := M.log i r hi
      refine ⟨?_, ?_, ?_, ?_, ?_⟩ <;> (rw [upd, if_neg (by omega)]; assumption), fun i hi => by rw [upd, if_neg (by omega)]; exact M.txt i hi⟩)
theorem SM.s_tp' (M : SM a v) (h9 : v.n ≤ 9) (h6 : v.k ≤ 6) (h60 : v.log.length ≤ 60) {p : Nat} (hp : p < v.k) (x : Nat) : SM (upd a (128 + 4 * p + 1) (nI x)) (v.w_tp (fun q => if q = p then x else v.tp q)) := by
  exact (by
    unfold SM
    try simp only [VR]
    exact ⟨by rw [upd, if_neg (by omega)]; exact M.texts, by rw [upd, if_neg (by omega)]; exact M.n, by rw [upd, if_neg (by omega)]; exact M.k, by rw [upd, if_neg (by omega)]; exact M.hour, by rw [upd, if_neg (by omega)]; exact M.night, by rw [upd, if_neg (by omega)]; exact M.fog, by rw [upd, if_neg (by omega)]; exact M.mist, by rw [upd, if_neg (by omega)]; exact M.logs, by rw [upd, if_neg (by omega)]; exact M.seed, fun q hq => by rw [upd, if_neg (by omega)]; exact M.oil q hq, fun q hq => by rw [upd, if_neg (by omega)]; exact M.burn q hq, fun q hq => by rw [upd, if_neg (by omega)]; exact M.own q hq, fun q hq => by rw [upd, if_neg (by omega)]; exact M.dark q hq, fun q r hq hr => by rw [upd, if_neg (by omega)]; exact M.way q r hq hr, fun q hq => by rw [upd, if_neg (by omega)]; exact M.pl q hq, 
      fun q hq => by
      by_cases h : q = p
      · subst h; simp [upd]
      · rw [upd, if_neg (by omega)]; simp only [h, if_false]; exact M.tp q hq, fun q hq => by rw [upd, if_neg (by omega)]; exact M.hd q hq, fun q hq => by rw [upd, if_neg (by omega)]; exact M.lt q hq, fun q r hq hr => by rw [upd, if_neg (by omega)]; exact M.like q r hq hr, 
      fun i r hi => by
      have hi2 := (List.getElem?_eq_some_iff.mp hi).1
      obtain ⟨h1, h2, h3, h4, h5⟩ := M.log i r hi
      refine ⟨?_, ?_, ?_, ?_, ?_⟩ <;> (rw [upd, if_neg (by omega)]; assumption), fun i hi => by rw [upd, if_neg (by omega)]; exact M.txt i hi⟩)
theorem SM.s_hd' (M : SM a v) (h9 : v.n ≤ 9) (h6 : v.k ≤ 6) (h60 : v.log.length ≤ 60) {p : Nat} (hp : p < v.k) (x : Option Nat) : SM (upd a (128 + 4 * p + 2) (oI x)) (v.w_hd (fun q => if q = p then x else v.hd q)) := by
  exact (by
    unfold SM
    try simp only [VR]
    exact ⟨by rw [upd, if_neg (by omega)]; exact M.texts, by rw [upd, if_neg (by omega)]; exact M.n, by rw [upd, if_neg (by omega)]; exact M.k, by rw [upd, if_neg (by omega)]; exact M.hour, by rw [upd, if_neg (by omega)]; exact M.night, by rw [upd, if_neg (by omega)]; exact M.fog, by rw [upd, if_neg (by omega)]; exact M.mist, by rw [upd, if_neg (by omega)]; exact M.logs, by rw [upd, if_neg (by omega)]; exact M.seed, fun q hq => by rw [upd, if_neg (by omega)]; exact M.oil q hq, fun q hq => by rw [upd, if_neg (by omega)]; exact M.burn q hq, fun q hq => by rw [upd, if_neg (by omega)]; exact M.own q hq, fun q hq => by rw [upd, if_neg (by omega)]; exact M.dark q hq, fun q r hq hr => by rw [upd, if_neg (by omega)]; exact M.way q r hq hr, fun q hq => by rw [upd, if_neg (by omega)]; exact M.pl q hq, fun q hq => by rw [upd, if_neg (by omega)]; exact M.tp q hq, 
      fun q hq => by
      by_cases h : q = p
      · subst h; simp [upd]
      · rw [upd, if_neg (by omega)]; simp only [h, if_false]; exact M.hd q hq, fun q hq => by rw [upd, if_neg (by omega)]; exact M.lt q hq, fun q r hq hr => by rw [upd, if_neg (by omega)]; exact M.like q r hq hr, 
      fun i r hi => by
      have hi2 := (List.getElem?_eq_some_iff.mp hi).1
      obtain ⟨h1, h2, h3, h4, h5⟩ := M.log i r hi
      refine ⟨?_, ?_, ?_, ?_, ?_⟩ <;> (rw [upd, if_neg (by omega)]; assumption), fun i hi => by rw [upd, if_neg (by omega)]; exact M.txt i hi⟩)
theorem SM.s_lt' (M : SM a v) (h9 : v.n ≤ 9) (h6 : v.k ≤ 6) (h60 : v.log.length ≤ 60) {p : Nat} (hp : p < v.k) (x : Nat) : SM (upd a (128 + 4 * p + 3) (nI x)) (v.w_lt (fun q => if q = p then x else v.lt q)) := by
  exact (by
    unfold SM
    try simp only [VR]
    exact ⟨by rw [upd, if_neg (by omega)]; exact M.texts, by rw [upd, if_neg (by omega)]; exact M.n, by rw [upd, if_neg (by omega)]; exact M.k, by rw [upd, if_neg (by omega)]; exact M.hour, by rw [upd, if_neg (by omega)]; exact M.night, by rw [upd, if_neg (by omega)]; exact M.fog, by rw [upd, if_neg (by omega)]; exact M.mist, by rw [upd, if_neg (by omega)]; exact M.logs, by rw [upd, if_neg (by omega)]; exact M.seed, fun q hq => by rw [upd, if_neg (by omega)]; exact M.oil q hq, fun q hq => by rw [upd, if_neg (by omega)]; exact M.burn q hq, fun q hq => by rw [upd, if_neg (by omega)]; exact M.own q hq, fun q hq => by rw [upd, if_neg (by omega)]; exact M.dark q hq, fun q r hq hr => by rw [upd, if_neg (by omega)]; exact M.way q r hq hr, fun q hq => by rw [upd, if_neg (by omega)]; exact M.pl q hq, fun q hq => by rw [upd, if_neg (by omega)]; exact M.tp q hq, fun q hq => by rw [upd, if_neg (by omega)]; exact M.hd q hq, 
      fun q hq => by
      by_cases h : q = p
      · subst h; simp [upd]
      · rw [upd, if_neg (by omega)]; simp only [h, if_false]; exact M.lt q hq, fun q r hq hr => by rw [upd, if_neg (by omega)]; exact M.like q r hq hr, 
      fun i r hi => by
      have hi2 := (List.getElem?_eq_some_iff.mp hi).1
      obtain ⟨h1, h2, h3, h4, h5⟩ := M.log i r hi
      refine ⟨?_, ?_, ?_, ?_, ?_⟩ <;> (rw [upd, if_neg (by omega)]; assumption), fun i hi => by rw [upd, if_neg (by omega)]; exact M.txt i hi⟩)
end PUTS

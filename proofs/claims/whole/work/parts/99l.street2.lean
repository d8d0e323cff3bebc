/-! the component reads a street -/
section STREET2
variable {σ σ0 σ1 σ2 : Mem} {v : View} {b : Nat → Int32} {T N j e k : Nat} {t : (Nat → Int32) × Nat} {x1 x2 x3 : Int32}
theorem lt_pred {n m : Nat} (hn : n < 2 ^ 31) (hm : m < 2 ^ 31) (h : nI n ≤ nI m - 1) : n < m := by
  cases m with
  | zero =>
    have h : nI n ≤ oI none := h
    exact ((le_on hn).mp h).elim
  | succ m =>
    rw [show nI (m + 1) - (1 : Int32) = nI m from nI_pred m] at h
    have := (nI_leI hn (by omega)).mp h
    omega
theorem IS.upd (h : IS σ0 b T N e t v k j σ) {v2 : View} (W2 : WF v2) (R2 : SC σ2 30 v2 e) (ht : (v2.txt, v2.texts) = (v.txt, v.texts)) (f : ∀ c, c < 30 ∨ 51 ≤ c → σ2 c = σ c) : ∀ k, IS σ0 b T N e t v2 k j σ2 := by
  intro k
  obtain ⟨h1, h2, h3, h4, h5, h6, h7, h8, h9⟩ := h
  exact ⟨h1.move (f 4 (by omega)) (f 6 (by omega)) (f 8 (by omega)), by rw [f 1 (by omega)]; exact h2, h3, by rw [f 1 (by omega)]; exact h4, W2, R2, by rw [ht]; exact h7, fun c c1 c2 => by rw [f c c2, h8 c c1 c2], fun i i1 i2 => by rw [f 1 (by omega), h9 i i1 i2]⟩
theorem IS.now (h : IS σ0 b T N e t v k j σ) {q : Nat} (hq : q ≤ N) : IS σ0 b T N e t v k q (st σ 1 5 (nI q)) := by
  obtain ⟨h1, h2, h3, h4, h5, h6, h7, h8, h9⟩ := h
  exact ⟨h1.move (st_n (by decide)) (st_n (by decide)) (st_n (by decide)), st_at, hq, by rw [st_at' (by decide)]; exact h4, h5, h6.move fun c c1 c2 => st_n (by omega), h7, fun c c1 c2 => by rw [st_n c1, h8 c c1 c2], fun i i1 i2 => by rw [st_at' i1, h9 i i1 i2]⟩
theorem IS.bad (h : IS σ0 b T N e t v k j σ) {f : Nat} : (st σ 1 6 (nI f)) 1 6 = nI f ∧ FrS σ0 (st σ 1 6 (nI f)) := by
  obtain ⟨h1, h2, h3, h4, h5, h6, h7, h8, h9⟩ := h
  exact ⟨st_at, fun c c1 c2 => by rw [st_n c1, h8 c c1 c2], fun i i1 i2 => by rw [st_at' i2, h9 i i1 i2]⟩
theorem SpR.no {r : Option (Int32 × Mem)} {f : Nat} (h : ∃ σ2, r = some (0, σ2) ∧ σ2 1 6 = nI f ∧ FrS σ0 σ2) : SpR σ0 b T N e t r (f, none) := ⟨fun v2 e => (nomatch e), fun _ => h⟩
theorem SpR.yes {r : Option (Int32 × Mem)} {f : Nat} {v2 : View} (h : ∃ σ2 j2, r = some (1, σ2) ∧ ps b T j2 = f ∧ ∀ k, IS σ0 b T N e t v2 k j2 σ2) : SpR σ0 b T N e t r (f, some v2) := ⟨fun v3 e => by cases e; exact h, fun e => nomatch e⟩
/-- a number is asked for -/
theorem k_fig (h : IS σ0 b T N e t v k j σ) (hi : Int32) : (∃ n, lpFig b T hi (ps b T j) = (ps b T (j + 1), some n) ∧ X10_needUpTo hi σ = some (nI n, st σ 1 5 (nI (j + 1))) ∧ IS σ0 b T N e t v k (j + 1) (st σ 1 5 (nI (j + 1))) ∧ nI n ≤ hi ∧ n ≤ 999 ∧ j ≤ N) ∨ (lpFig b T hi (ps b T j) = (ps b T j, none) ∧ X10_needUpTo hi σ = some (-1, st σ 1 6 (nI (ps b T j)))) := by
  unfold lpFig
  rw [k_upTo h.1 h.2.2.1 h.2.1]
  by_cases c : term b T (ps b T j) = 3 ∧ nI (val b T (ps b T j)) ≤ hi
  · have hn := h.1.next h.2.2.1 (by omega)
    left
    rw [if_pos c, if_pos c]
    exact ⟨_, rfl, rfl, h.now hn.1, c.2, (val_I c.1).2, h.2.2.1⟩
  · right
    rw [if_neg c, if_neg c]
    exact ⟨rfl, rfl⟩
theorem k_tk (h : IS σ0 b T N e t v k j σ) {q : Nat} (hq : 2 ≤ q ∧ q ≤ 32) : (term b T (ps b T j) = q ∧ X10_take (nI q) σ = some (1, st σ 1 5 (nI (j + 1))) ∧ IS σ0 b T N e t v k (j + 1) (st σ 1 5 (nI (j + 1)))) ∨ (term b T (ps b T j) ≠ q ∧ X10_take (nI q) σ = some (0, σ)) := by
  rw [k_take h.1 h.2.2.1 h.2.1 hq.2]
  by_cases c : term b T (ps b T j) = q
  · have hn := h.1.next h.2.2.1 (by omega)
    left
    rw [if_pos c]
    exact ⟨c, rfl, h.now hn.1⟩
  · right
    rw [if_neg c]
    exact ⟨c, rfl⟩
theorem k_nd (h : IS σ0 b T N e t v k j σ) {q : Nat} (hq : 2 ≤ q ∧ q ≤ 32) : (term b T (ps b T j) = q ∧ X10_need (nI q) σ = some (1, st σ 1 5 (nI (j + 1))) ∧ IS σ0 b T N e t v k (j + 1) (st σ 1 5 (nI (j + 1)))) ∨ (term b T (ps b T j) ≠ q ∧ X10_need (nI q) σ = some (0, st σ 1 6 (nI (ps b T j)))) := by
  rw [k_need h.1 h.2.2.1 h.2.1 hq.2]
  by_cases c : term b T (ps b T j) = q
  · have hn := h.1.next h.2.2.1 (by omega)
    left
    rw [if_pos c]
    exact ⟨c, rfl, h.now hn.1⟩
  · right
    rw [if_neg c]
    exact ⟨c, rfl⟩
theorem addP_txt {o : Nat} {lit : Bool} : ((v.addP o lit).txt, (v.addP o lit).texts) = (v.txt, v.texts) := by unfold View.addP; simp only [VR]
theorem addW_txt {a q : Nat} {ow hd : Option Nat} : ((v.addW a q ow hd).txt, (v.addW a q ow hd).texts) = (v.txt, v.texts) := by unfold View.addW; simp only [VR]
theorem e_paneT (h : IS σ0 b T N e t v k j σ) (hn : v.n < 9) {o : Nat} (ho : o ≤ 99) : SpR σ0 b T N e t (X8_readPane_26 30 (nI o) σ) (if 0 < o ∧ term b T (ps b T j) = 19 then (nx b T (ps b T j), some (v.addP o true)) else (ps b T j, some (v.addP o false))) := by
  have no : SpR σ0 b T N e t (X8_readPane_44 30 (nI o) σ) (ps b T j, some (v.addP o false)) := by
    obtain ⟨σ2, a1, a2, a3⟩ := e_addPane (o := o) (lit := false) (y := 0) h.2.2.2.2.1 h.2.2.2.2.2.1 hn (Or.inl ⟨rfl, rfl⟩)
    unfold X8_readPane_44 X8_readPane_45
    rw [a1, bd_s, gb_1, bd_s]
    exact SpR.yes ⟨σ2, j, rfl, rfl, h.upd (h.2.2.2.2.1.addP hn ho (fun q => by cases q)) a2 addP_txt a3⟩
  unfold X8_readPane_26
  by_cases c0 : o = 0
  · rw [if_pos (show nI o ≤ 0 by rw [c0]; decide), if_neg (by omega)]
    exact no
  · rw [if_neg (show ¬ nI o ≤ 0 from nI_ge (a := 0) (by omega) (by omega))]
    rcases k_tk h (q := 19) (by omega) with ⟨c1, c2, c3⟩ | ⟨c1, c2⟩
    · rw [show (19 : Int32) = nI 19 from rfl, c2, bd2_s, if_neg (by decide), if_pos ⟨by omega, c1⟩]
      obtain ⟨σ2, a1, a2, a3⟩ := e_addPane (o := o) (lit := true) (y := 1) c3.2.2.2.2.1 c3.2.2.2.2.2.1 hn (Or.inr ⟨rfl, rfl⟩)
      unfold X8_readPane_45
      rw [a1, bd_s, gb_1, bd_s]
      exact SpR.yes ⟨σ2, j + 1, rfl, rfl, c3.upd (h.2.2.2.2.1.addP hn ho (fun _ => by omega)) a2 addP_txt a3⟩
    · rw [show (19 : Int32) = nI 19 from rfl, c2, bd2_s, if_pos rfl, if_neg (fun z => c1 z.2)]
      exact no
theorem e_pane (h : IS σ0 b T N e t v k j σ) (hn : v.n < 9) : SpR σ0 b T N e t (X8_readPane 30 σ) (spPane b T v (ps b T j)) := by
  unfold X8_readPane spPane
  rcases k_tk h (q := 12) (by omega) with ⟨c1, c2, c3⟩ | ⟨c1, c2⟩
  · rw [show (12 : Int32) = nI 12 from rfl, c2, bd2_s, if_neg (by decide), if_pos c1]
    show SpR σ0 b T N e t _ (prB (lpFig b T 99 (ps b T (j + 1))) _)
    rcases k_fig c3 99 with ⟨n, f1, f2, f3, f4, f5, f6⟩ | ⟨f1, f2⟩
    · have hn99 : n ≤ 99 := (nI_leI (b := 99) (by omega) (by omega)).mp f4
      rw [f1, f2, bd2_s, if_pos (nI_pos' (by omega)), prB_s]
      exact e_paneT f3 hn hn99
    · rw [f1, f2, bd2_s, if_neg (by decide), prB_n]
      exact SpR.no ⟨_, rfl, c3.bad⟩
  · rw [show (12 : Int32) = nI 12 from rfl, c2, bd2_s, if_pos rfl, if_neg c1, prB_s]
    exact e_paneT (o := 20) h hn (by omega)
theorem WF.wayd (W : WF v) {p q : Nat} (hpq : p ≠ q) {x : Bool} : WF (v.w_way (wayS v.way p q x)) := (by
    unfold WF
    try simp only [VR]
    exact ⟨W.n9, W.k6, W.texts, W.hour, W.night, W.fog, W.oil, W.dark, W.own, W.one, W.burn, 
      fun a c ha hb => by
      unfold wayS
      by_cases d : (a = p ∧ c = q) ∨ (a = q ∧ c = p)
      · rw [if_pos d, if_pos (by omega)]
      · rw [if_neg d, if_neg (by omega)]; exact W.sym a c ha hb, 
      fun a ha => by
      unfold wayS
      rw [if_neg (by omega)]; exact W.irr a ha, W.pl, W.tp, W.lt, W.hd, W.like, W.self, W.log, W.rows⟩)
theorem e_way (h : IS σ0 b T N e t v k j σ) : SpR σ0 b T N e t (X8_readWay 30 σ) (spWay b T v (ps b T j)) := by
  have h9 := h.2.2.2.2.1.n9
  unfold X8_readWay spWay X8_readWay_29
  rw [h.2.2.2.2.2.1.n]
  rcases k_fig h (nI v.n - 1) with ⟨a, f1, f2, f3, f4, f5, f6⟩ | ⟨f1, f2⟩
  · have ha := lt_pred (by omega) (by omega) f4
    rw [f1, f2, bd2_s, if_neg (nI_pos (by omega)), prB_s, f3.2.2.2.2.2.1.n]
    rcases k_fig f3 (nI v.n - 1) with ⟨c, g1, g2, g3, g4, g5, g6⟩ | ⟨g1, g2⟩
    · have hc := lt_pred (by omega) (by omega) g4
      rw [g1, g2, bd2_s, if_pos (nI_pos' (by omega)), prB_s]
      by_cases d : c = a
      · rw [if_pos (by rw [d]), if_pos d, k_wrongB g3.1 g6 g3.2.1, bd2_s, gbz, bd_s]
        exact SpR.no ⟨_, rfl, g3.bad⟩
      · rw [if_neg (fun z => d (nI_inj (by omega) (by omega) z)), if_neg d]
        obtain ⟨σ2, s1, s2, s3⟩ := e_setWay30 g3.2.2.2.2.1 g3.2.2.2.2.2.1 ha hc (fun z => d z.symm) (x := true)
        rw [show (1 : Int32) = b2i true from rfl, s1, bd_s]
        exact SpR.yes ⟨σ2, j + 1 + 1, rfl, rfl, g3.upd (g3.2.2.2.2.1.wayd (fun z => d z.symm)) s2 (by simp only [VR]) (fun q hq => s3 q (by omega))⟩
    · rw [g1, g2, bd2_s, if_neg (by decide), prB_n]
      exact SpR.no ⟨_, rfl, f3.bad⟩
  · rw [f1, f2, bd2_s, if_pos (by decide), prB_n, if_neg (by decide)]
    exact SpR.no ⟨_, rfl, h.bad⟩
theorem WF.liked (W : WF v) {x y z : Nat} (hxy : x ≠ y) (hz : z ≤ 9) : WF (v.w_like (fun a c => if a = x ∧ c = y then z else v.like a c)) := (by
    unfold WF
    try simp only [VR]
    exact ⟨W.n9, W.k6, W.texts, W.hour, W.night, W.fog, W.oil, W.dark, W.own, W.one, W.burn, W.sym, W.irr, W.pl, W.tp, W.lt, W.hd, 
      fun w o hw ho => by
      by_cases c : w = x ∧ o = y
      · rw [if_pos c]; exact hz
      · rw [if_neg c]; exact W.like w o hw ho, 
      fun w hw => by
      rw [if_neg (by omega)]; exact W.self w hw, W.log, W.rows⟩)
theorem e_likes (h : IS σ0 b T N e t v k j σ) : SpR σ0 b T N e t (X8_readLikes 30 σ) (spLike b T v (ps b T j)) := by
  have h6 := h.2.2.2.2.1.k6
  unfold X8_readLikes spLike X8_readLikes_29
  rw [h.2.2.2.2.2.1.k]
  rcases k_fig h (nI v.k - 1) with ⟨a, f1, f2, f3, f4, f5, f6⟩ | ⟨f1, f2⟩
  · have ha := lt_pred (by omega) (by omega) f4
    rw [f1, f2, bd2_s, if_neg (nI_pos (by omega)), prB_s, f3.2.2.2.2.2.1.k]
    rcases k_fig f3 (nI v.k - 1) with ⟨c, g1, g2, g3, g4, g5, g6⟩ | ⟨g1, g2⟩
    · have hc := lt_pred (by omega) (by omega) g4
      rw [g1, g2, bd2_s, if_pos (nI_pos' (by omega)), prB_s]
      by_cases d : c = a
      · rw [if_pos (by rw [d]), if_pos d, k_wrongB g3.1 g6 g3.2.1, bd2_s, gbz, bd_s]
        exact SpR.no ⟨_, rfl, g3.bad⟩
      · rw [if_neg (fun z => d (nI_inj (by omega) (by omega) z)), if_neg d]
        rcases k_fig g3 9 with ⟨z, q1, q2, q3, q4, q5, q6⟩ | ⟨q1, q2⟩
        · have hz : z ≤ 9 := (nI_leI (b := 9) (by omega) (by omega)).mp q4
          rw [q1, q2, bd2_s, if_pos (nI_pos' (by omega)), prB_s, e_setLikes kd30 q3.2.2.2.2.1 ha hc, bd_s, gb_1, bd_s]
          exact SpR.yes ⟨_, j + 1 + 1 + 1, rfl, rfl, q3.upd (q3.2.2.2.2.1.liked (fun z => d z.symm) hz) (SC.s_like q3.2.2.2.2.1 q3.2.2.2.2.2.1 ha hc z) (by simp only [VR]) (fun q hq => by rw [st_n (by omega)])⟩
        · rw [q1, q2, bd2_s, if_neg (by decide), prB_n]
          exact SpR.no ⟨_, rfl, g3.bad⟩
    · rw [g1, g2, bd2_s, if_neg (by decide), prB_n]
      exact SpR.no ⟨_, rfl, f3.bad⟩
  · rw [f1, f2, bd2_s, if_pos (by decide), prB_n, if_neg (by decide)]
    exact SpR.no ⟨_, rfl, h.bad⟩
theorem bad_st {i f : Nat} (h : FrS σ0 σ) (hf : σ 1 6 = nI f) {x : Int32} : (st σ 30 i x) 1 6 = nI f ∧ FrS σ0 (st σ 30 i x) := ⟨by rw [st_n (by decide)]; exact hf, fun c c1 c2 => by rw [st_n (by omega), h.1 c c1 c2], fun q q1 q2 => by rw [st_n (by decide), h.2 q q1 q2]⟩
theorem e_time (h : IS σ0 b T N e t v k j σ) : SpR σ0 b T N e t (X8_readTime 30 σ) (spTime b T v (ps b T j)) := by
  have W := h.2.2.2.2.1
  unfold X8_readTime spTime
  rcases k_tk h (q := 24) (by omega) with ⟨c1, c2, c3⟩ | ⟨c1, c2⟩
  · rw [show (24 : Int32) = nI 24 from rfl, c2, bd2_s, if_neg (by decide), if_pos c1]
    show SpR σ0 b T N e t _ (prB (lpFig b T 100 (ps b T (j + 1))) _)
    rcases k_fig c3 100 with ⟨n, f1, f2, f3, f4, f5, f6⟩ | ⟨f1, f2⟩
    · have hz : n ≤ 100 := (nI_leI (b := 100) (by omega) (by omega)).mp f4
      rw [f1, f2, bd2_s, pu_s, bd_s, st_at, if_neg (nI_pos (by omega)), gb_1, bd_s, prB_s]
      exact SpR.yes ⟨_, j + 1 + 1, rfl, rfl, f3.upd (by
    unfold WF
    try simp only [VR]
    exact ⟨W.n9, W.k6, W.texts, W.hour, W.night, hz, W.oil, W.dark, W.own, W.one, W.burn, W.sym, W.irr, W.pl, W.tp, W.lt, W.hd, W.like, W.self, W.log, W.rows⟩) (f3.2.2.2.2.2.1.s_fog n) (by simp only [VR]) (fun q hq => by rw [st_n (by omega)])⟩
    · rw [f1, f2, bd2_s, pu_s, bd_s, st_at, if_pos (by decide), gbz, bd_s, prB_n]
      exact SpR.no ⟨_, rfl, bad_st c3.bad.2 c3.bad.1⟩
  · rw [show (24 : Int32) = nI 24 from rfl, c2, bd2_s, if_pos rfl, if_neg c1]
    rcases k_tk h (q := 16) (by omega) with ⟨d1, d2, d3⟩ | ⟨d1, d2⟩
    · rw [show (16 : Int32) = nI 16 from rfl, d2, bd2_s, if_neg (by decide), if_pos d1]
      show SpR σ0 b T N e t _ (prB (lpFig b T 23 (ps b T (j + 1))) _)
      rcases k_fig d3 23 with ⟨n, f1, f2, f3, f4, f5, f6⟩ | ⟨f1, f2⟩
      · have hz : n ≤ 23 := (nI_leI (b := 23) (by omega) (by omega)).mp f4
        rw [f1, f2, bd2_s, pu_s, bd_s, st_at, if_neg (nI_pos (by omega)), gb_1, bd_s, prB_s]
        exact SpR.yes ⟨_, j + 1 + 1, rfl, rfl, f3.upd (by
    unfold WF
    try simp only [VR]
    exact ⟨W.n9, W.k6, W.texts, by omega, W.night, W.fog, W.oil, W.dark, W.own, W.one, W.burn, W.sym, W.irr, W.pl, W.tp, W.lt, W.hd, W.like, W.self, W.log, W.rows⟩) (f3.2.2.2.2.2.1.s_hour n) (by simp only [VR]) (fun q hq => by rw [st_n (by omega)])⟩
      · rw [f1, f2, bd2_s, pu_s, bd_s, st_at, if_pos (by decide), gbz, bd_s, prB_n]
        exact SpR.no ⟨_, rfl, bad_st d3.bad.2 d3.bad.1⟩
    · rw [show (16 : Int32) = nI 16 from rfl, d2, bd2_s, if_pos rfl, if_neg d1]
      rcases k_tk h (q := 25) (by omega) with ⟨g1, g2, g3⟩ | ⟨g1, g2⟩
      · rw [show (25 : Int32) = nI 25 from rfl, g2, bd2_s, if_neg (by decide), if_pos g1]
        show SpR σ0 b T N e t _ (prB (lpFig b T 999 (ps b T (j + 1))) _)
        rcases k_fig g3 999 with ⟨n, f1, f2, f3, f4, f5, f6⟩ | ⟨f1, f2⟩
        · have hz : n ≤ 999 := (nI_leI (b := 999) (by omega) (by omega)).mp f4
          rw [f1, f2, bd2_s, pu_s, bd_s, st_at, if_neg (nI_pos (by omega)), gb_1, bd_s, prB_s]
          exact SpR.yes ⟨_, j + 1 + 1, rfl, rfl, f3.upd (by
    unfold WF
    try simp only [VR]
    exact ⟨W.n9, W.k6, W.texts, W.hour, by omega, W.fog, W.oil, W.dark, W.own, W.one, W.burn, W.sym, W.irr, W.pl, W.tp, W.lt, W.hd, W.like, W.self, W.log, W.rows⟩) (f3.2.2.2.2.2.1.s_night n) (by simp only [VR]) (fun q hq => by rw [st_n (by omega)])⟩
        · rw [f1, f2, bd2_s, pu_s, bd_s, st_at, if_pos (by decide), gbz, bd_s, prB_n]
          exact SpR.no ⟨_, rfl, bad_st g3.bad.2 g3.bad.1⟩
      · rw [show (25 : Int32) = nI 25 from rfl, g2, bd2_s, if_pos rfl, if_neg g1, k_wrong h.1 h.2.2.1 h.2.1, bd2_s, gbz, bd_s]
        exact SpR.no ⟨_, rfl, h.bad⟩
/-- a walker is written down -/
theorem e_addWalk (W : WF v) (R : SC σ 30 v e) (hk : v.k < 6) {a q : Nat} {ow hd : Option Nat} (hs1 : ∀ c, c ≠ 34 → σ1 c = σ c) (hs2 : ∀ p, p < v.n → σ1 34 p = if ow = some p then nI v.k else σ 34 p) : ∃ σ2, X7_addWalker 30 (nI a) (nI q) (oI hd) σ1 = some σ2 ∧ SC σ2 30 (v.addW a q ow hd) e ∧ ∀ c, c < 30 ∨ 51 ≤ c → σ2 c = σ c := by
  have h9 := W.n9
  obtain ⟨l2, l4, l6, l8, l10, l12, l14, l16, l18, l20⟩ := ln_str kd30
  generalize hτ : st (st (st (st (st σ1 30 1 (nI (v.k + 1))) 40 v.k (nI a)) 42 v.k (nI q)) 44 v.k (oI hd)) 46 v.k 0 = τ
  have s30 : ∀ i, i ≠ 1 → τ 30 i = σ 30 i := fun i hi => by rw [← hτ, st_n (by decide), st_n (by decide), st_n (by decide), st_n (by decide), st_at' hi, hs1 30 (by decide)]
  have s1 : τ 30 1 = nI (v.k + 1) := by rw [← hτ, st_n (by decide), st_n (by decide), st_n (by decide), st_n (by decide), st_at]
  have so : ∀ c, c ≠ 30 → c ≠ 40 → c ≠ 42 → c ≠ 44 → c ≠ 46 → τ c = σ1 c := fun c c1 c2 c3 c4 c5 => by rw [← hτ, st_n c5, st_n c4, st_n c3, st_n c2, st_n c1]
  have s40 : ∀ i, τ 40 i = if i = v.k then nI a else σ 40 i := fun i => by
    rw [← hτ, st_n (by decide), st_n (by decide), st_n (by decide)]
    by_cases c : i = v.k
    · rw [if_pos c, c, st_at]
    · rw [if_neg c, st_at' c, st_n (by decide), hs1 40 (by decide)]
  have s42 : ∀ i, τ 42 i = if i = v.k then nI q else σ 42 i := fun i => by
    rw [← hτ, st_n (by decide), st_n (by decide)]
    by_cases c : i = v.k
    · rw [if_pos c, c, st_at]
    · rw [if_neg c, st_at' c, st_n (by decide), st_n (by decide), hs1 42 (by decide)]
  have s44 : ∀ i, τ 44 i = if i = v.k then oI hd else σ 44 i := fun i => by
    rw [← hτ, st_n (by decide)]
    by_cases c : i = v.k
    · rw [if_pos c, c, st_at]
    · rw [if_neg c, st_at' c, st_n (by decide), st_n (by decide), st_n (by decide), hs1 44 (by decide)]
  have s46 : ∀ i, τ 46 i = if i = v.k then 0 else σ 46 i := fun i => by
    rw [← hτ]
    by_cases c : i = v.k
    · rw [if_pos c, c, st_at]
    · rw [if_neg c, st_at' c, st_n (by decide), st_n (by decide), st_n (by decide), st_n (by decide), hs1 46 (by decide)]
  have k1 : σ1 30 1 = nI v.k := by rw [hs1 30 (by decide)]; exact R.k
  have eA : X7_addWalker 30 (nI a) (nI q) (oI hd) σ1 = X7_addWalker_59 FU 30 (nI v.k) 0 τ := by
    unfold X7_addWalker
    rw [k1, nI_1, pu_s, bd_s, e_set (B := 30 + 9) (by rw [show 30 + 9 + 1 = 30 + 10 from rfl, l10]; omega) (by rw [show 30 + 9 + 1 = 30 + 10 from rfl, l10]; decide), bd_s, e_set (B := 30 + 11) (by rw [show 30 + 11 + 1 = 30 + 12 from rfl, l12]; omega) (by rw [show 30 + 11 + 1 = 30 + 12 from rfl, l12]; decide), bd_s, e_set (B := 30 + 13) (by rw [show 30 + 13 + 1 = 30 + 14 from rfl, l14]; omega) (by rw [show 30 + 13 + 1 = 30 + 14 from rfl, l14]; decide), bd_s, e_set (B := 30 + 15) (by rw [show 30 + 15 + 1 = 30 + 16 from rfl, l16]; omega) (by rw [show 30 + 15 + 1 = 30 + 16 from rfl, l16]; decide), bd_s]
    rw [← hτ]
  have sl : ∀ (ρ : Mem) (w o : Nat), w < 6 → o < 6 → X7_setLikes 30 (nI w) (nI o) 5 ρ = some (st ρ 48 (6 * w + o) (nI 5)) := by
    intro ρ w o hw ho
    unfold X7_setLikes
    rw [show (6 : Int32) = nI 6 from rfl, nI_mul, nI_add, Nat.mul_comm w 6, e_set (B := 30 + 17) (by rw [show 30 + 17 + 1 = 30 + 18 from rfl, l18]; omega) (by rw [show 30 + 17 + 1 = 30 + 18 from rfl, l18]; decide), bd_s]; rfl
  rw [eA, show (0 : Int32) = nI 0 from rfl]
  refine loop_P (L := fun f (m : Mem) x => X7_addWalker_59 f 30 (nI v.k) x m) (P := fun x m => (∀ c, c ≠ 48 → m c = τ c) ∧ ∀ w o, w < 6 → o < 6 → m 48 (6 * w + o) = if (w = v.k ∧ o < x) ∨ (o = v.k ∧ w < x) then nI 5 else σ 48 (6 * w + o)) (Q := fun r => ∃ σ2, r = some σ2 ∧ SC σ2 30 (v.addW a q ow hd) e ∧ ∀ c, c < 30 ∨ 51 ≤ c → σ2 c = σ c) (n := v.k) (a := τ) (fun f m hP => ?_) (fun f m x hx hP => Or.inr ?_) (Nat.zero_le _) (FUb (by omega)) ⟨fun _ _ => rfl, fun w o _ _ => by rw [if_neg (by omega), so 48 (by decide) (by decide) (by decide) (by decide) (by decide), hs1 48 (by decide)]⟩
  · obtain ⟨p1, p2⟩ := hP
    refine ⟨m, by rw [X7_addWalker_59, if_pos (nI_le (Nat.le_refl _) (by omega))], ?_, fun c hc => by rw [p1 c (by omega), so c (by omega) (by omega) (by omega) (by omega) (by omega), hs1 c (by omega)]⟩
    have gs : ∀ i, i ≠ 1 → m 30 i = σ 30 i := fun i i1 => by rw [p1 30 (by decide), s30 i i1]
    have gc : ∀ c, c ≠ 30 → c ≠ 34 → c ≠ 40 → c ≠ 42 → c ≠ 44 → c ≠ 46 → c ≠ 48 → m c = σ c := fun c c1 c2 c3 c4 c5 c6 c7 => by rw [p1 c c7, so c c1 c3 c4 c5 c6, hs1 c c2]
    unfold View.addW
    unfold SC
    simp only [VR]
    refine ⟨by rw [gs 0 (by decide)]; exact R.n, by rw [p1 30 (by decide), s1], by rw [gs 2 (by decide)]; exact R.texts, by rw [gs 3 (by decide)]; exact R.hour, by rw [gs 4 (by decide)]; exact R.night, by rw [gs 5 (by decide)]; exact R.fog, by rw [gs 6 (by decide)]; exact R.mist, by rw [gs 7 (by decide)]; exact R.seed, by rw [gs 8 (by decide)]; exact R.burn, fun p hp => by rw [gc (30 + 2) (by decide) (by decide) (by decide) (by decide) (by decide) (by decide) (by decide)]; exact R.oil p hp, fun p hp => ?_, fun p hp => by rw [gc (30 + 6) (by decide) (by decide) (by decide) (by decide) (by decide) (by decide) (by decide)]; exact R.dark p hp, fun p hp => by rw [gc (30 + 8) (by decide) (by decide) (by decide) (by decide) (by decide) (by decide) (by decide)]; exact R.way p hp, fun w hw => ?_, fun w hw => ?_, fun w hw => ?_, fun w hw => ?_, fun w o hw ho hwo => ?_, ?_⟩
    · rw [p1 (30 + 4) (by decide), so (30 + 4) (by decide) (by decide) (by decide) (by decide) (by decide), show σ1 (30 + 4) p = _ from hs2 p hp]
      by_cases c : ow = some p
      · rw [if_pos c, if_pos c]; rfl
      · rw [if_neg c, if_neg c]; exact R.own p hp
    · rw [p1 (30 + 10) (by decide), s40]
      by_cases c : w = v.k
      · rw [if_pos c, if_pos c]
      · rw [if_neg c, if_neg c]; exact R.pl w (by omega)
    · rw [p1 (30 + 12) (by decide), s42]
      by_cases c : w = v.k
      · rw [if_pos c, if_pos c]
      · rw [if_neg c, if_neg c]; exact R.tp w (by omega)
    · rw [p1 (30 + 14) (by decide), s44]
      by_cases c : w = v.k
      · rw [if_pos c, if_pos c]
      · rw [if_neg c, if_neg c]; exact R.hd w (by omega)
    · rw [p1 (30 + 16) (by decide), s46]
      by_cases c : w = v.k
      · rw [if_pos c, if_pos c]; rfl
      · rw [if_neg c, if_neg c]; exact R.lt w (by omega)
    · rw [show m (30 + 18) (6 * w + o) = _ from p2 w o (by omega) (by omega)]
      by_cases c : w = v.k ∨ o = v.k
      · rw [if_pos (by omega), if_pos c]
      · rw [if_neg (by omega), if_neg c]; exact R.like w o (by omega) (by omega) hwo
    · rw [gs 19 (by decide), gc (30 + 20) (by decide) (by decide) (by decide) (by decide) (by decide) (by decide) (by decide)]
      exact R.log
  · obtain ⟨p1, p2⟩ := hP
    refine ⟨st (st m 48 (6 * v.k + x) (nI 5)) 48 (6 * x + v.k) (nI 5), ?_, fun c hc => by rw [st_n hc, st_n hc, p1 c hc], fun w o hw ho => ?_⟩
    · rw [X7_addWalker_59, if_neg (nI_ge hx (by omega)), sl _ _ _ (by omega) (by omega), bd_s, sl _ _ _ (by omega) (by omega), bd_s, nI_1]
    · by_cases c1 : o = v.k ∧ w = x
      · rw [c1.1, c1.2, st_at, if_pos (Or.inr ⟨rfl, by omega⟩)]
      · rw [st_at' (by omega)]
        by_cases c2 : w = v.k ∧ o = x
        · rw [c2.1, c2.2, st_at, if_pos (Or.inl ⟨rfl, by omega⟩)]
        · rw [st_at' (by omega), p2 w o hw ho]
          by_cases c3 : (w = v.k ∧ o < x) ∨ (o = v.k ∧ w < x)
          · rw [if_pos c3, if_pos (by omega)]
          · rw [if_neg c3, if_neg (by omega)]
theorem e_w156 (h : IS σ0 b T N e t v k j σ) (hk : v.k < 6) {a q : Nat} {ow hd : Option Nat} (ha : a < v.n) (hq : q ≤ 99) (how : ∀ p, ow = some p → p < v.n ∧ v.own p = none) (hhd : ∀ p, hd = some p → p < v.n) {y : Int32} (hy : y = oI ow) : SpR σ0 b T N e t (X8_readWalker_138 30 (nI a) (nI q) y (oI hd) σ) (ps b T j, some (v.addW a q ow hd)) := by
  obtain ⟨h1, h2, h3, h4, W, R, h7, h8⟩ := id h
  have h9 := W.n9
  obtain ⟨l2, l4, l6, l8, l10, l12, l14, l16, l18, l20⟩ := ln_str kd30
  unfold X8_readWalker_138 X8_readWalker_156
  cases hw : ow with
  | none =>
    rw [hy, hw, if_pos (show oI none < 0 by decide)]
    obtain ⟨σ2, a1, a2, a3⟩ := e_addWalk (σ1 := σ) (ow := none) W R hk (a := a) (q := q) (hd := hd) (fun _ _ => rfl) (fun p hp => by rw [if_neg (fun z => nomatch z)])
    rw [a1, bd_s, gb_1, bd_s]
    exact SpR.yes ⟨σ2, j, rfl, rfl, h.upd (W.addW hk ha hq (fun p z => nomatch z) hhd) a2 addW_txt a3⟩
  | some p0 =>
    obtain ⟨o1, o2⟩ := how p0 hw
    rw [hy, hw, show oI (some p0) = nI p0 from rfl, if_neg (nI_pos (by omega)), R.k, e_set (B := 30 + 3) (by rw [show 30 + 3 + 1 = 30 + 4 from rfl, l4]; omega) (by rw [show 30 + 3 + 1 = 30 + 4 from rfl, l4]; decide), bd_s]
    obtain ⟨σ2, a1, a2, a3⟩ := e_addWalk (σ1 := st σ 34 p0 (nI v.k)) (ow := some p0) W R hk (a := a) (q := q) (hd := hd) (fun c hc => st_n hc) (fun p hp => by
      by_cases c : p0 = p
      · rw [c, st_at, if_pos rfl]
      · rw [st_at' (fun z => c z.symm), if_neg (fun z => c (Option.some.inj z))])
    rw [show st σ (30 + 3 + 1) p0 (nI v.k) = st σ 34 p0 (nI v.k) from rfl, a1, bd_s, gb_1, bd_s]
    exact SpR.yes ⟨σ2, j, rfl, rfl, h.upd (W.addW hk ha hq (fun p z => by cases z; exact ⟨o1, o2⟩) hhd) a2 addW_txt a3⟩
theorem e_w106 (h : IS σ0 b T N e t v k j σ) (hk : v.k < 6) {a q : Nat} {ow : Option Nat} (ha : a < v.n) (hq : q ≤ 99) (how : ∀ p, ow = some p → p < v.n ∧ v.own p = none) {y : Int32} (hy : y = oI ow) : SpR σ0 b T N e t (X8_readWalker_106 30 (nI a) (nI q) y σ) (prB (spHead b T v (ps b T j)) (fun hd u => (u, some (v.addW a q ow hd)))) := by
  have h9 := h.2.2.2.2.1.n9
  unfold X8_readWalker_106 spHead
  rcases k_tk h (q := 22) (by omega) with ⟨c1, c2, c3⟩ | ⟨c1, c2⟩
  · rw [show (22 : Int32) = nI 22 from rfl, c2, bd2_s, if_neg (by decide), if_pos c1, c3.2.2.2.2.2.1.n]
    show SpR σ0 b T N e t _ (prB (prB (lpFig b T (nI v.n - 1) (ps b T (j + 1))) _) _)
    rcases k_fig c3 (nI v.n - 1) with ⟨n, f1, f2, f3, f4, f5, f6⟩ | ⟨f1, f2⟩
    · have hn := lt_pred (by omega) (by omega) f4
      rw [f1, f2, bd2_s, if_pos (nI_pos' (by omega)), prB_s, prB_s]
      exact e_w156 (hd := some n) f3 hk ha hq how (fun p z => by cases z; exact hn) hy
    · rw [f1, f2, bd2_s, if_neg (by decide), prB_n, prB_n]
      exact SpR.no ⟨_, rfl, c3.bad⟩
  · rw [show (22 : Int32) = nI 22 from rfl, c2, bd2_s, if_pos rfl, if_neg c1, prB_s]
    exact e_w156 (hd := none) h hk ha hq how (fun p z => nomatch z) hy
theorem e_walk (h : IS σ0 b T N e t v k j σ) (hk : v.k < 6) : SpR σ0 b T N e t (X8_readWalker 30 σ) (spWalk b T v (ps b T j)) := by
  have h9 := h.2.2.2.2.1.n9
  unfold X8_readWalker spWalk X8_readWalker_24 X8_readWalker_48 X8_readWalker_49
  rcases k_nd h (q := 20) (by omega) with ⟨c1, c2, c3⟩ | ⟨c1, c2⟩
  · rw [show (20 : Int32) = nI 20 from rfl, c2, bd2_s, if_neg (by decide), if_pos c1, c3.2.2.2.2.2.1.n]
    show SpR σ0 b T N e t _ (prB (lpFig b T (nI v.n - 1) (ps b T (j + 1))) _)
    rcases k_fig c3 (nI v.n - 1) with ⟨a, f1, f2, f3, f4, f5, f6⟩ | ⟨f1, f2⟩
    · have ha := lt_pred (by omega) (by omega) f4
      rw [f1, f2, bd2_s, if_neg (nI_pos (by omega)), prB_s]
      rcases k_nd f3 (q := 14) (by omega) with ⟨d1, d2, d3⟩ | ⟨d1, d2⟩
      · rw [show (14 : Int32) = nI 14 from rfl, d2, bd2_s, if_neg (by decide), if_pos d1]
        show SpR σ0 b T N e t _ (prB (lpFig b T 99 (ps b T (j + 1 + 1 + 1))) _)
        rcases k_fig d3 99 with ⟨q, g1, g2, g3, g4, g5, g6⟩ | ⟨g1, g2⟩
        · have hq : q ≤ 99 := (nI_leI (b := 99) (by omega) (by omega)).mp g4
          rw [g1, g2, bd2_s, if_pos (nI_pos' (by omega)), prB_s]
          unfold spOwn
          rcases k_tk g3 (q := 21) (by omega) with ⟨u1, u2, u3⟩ | ⟨u1, u2⟩
          · rw [show (21 : Int32) = nI 21 from rfl, u2, bd2_s, if_neg (by decide), if_pos u1, u3.2.2.2.2.2.1.n]
            show SpR σ0 b T N e t _ (prB (prB (lpFig b T (nI v.n - 1) (ps b T (j + 1 + 1 + 1 + 1 + 1))) _) _)
            rcases k_fig u3 (nI v.n - 1) with ⟨o, w1, w2, w3, w4, w5, w6⟩ | ⟨w1, w2⟩
            · have ho := lt_pred (by omega) (by omega) w4
              rw [w1, w2, bd2_s, if_pos (nI_pos' (by omega)), prB_s, show X6_get _ (30 + 3) (nI o) = _ from g_own kd30 w3.2.2.2.2.1 w3.2.2.2.2.2.1 ho, bd_s]
              by_cases ow : v.own o = none
              · rw [if_pos (show oI (v.own o) = -1 by rw [ow]; rfl), if_pos ow, prB_s]
                exact e_w106 (ow := some o) w3 hk ha hq (fun p z => by cases z; exact ⟨ho, ow⟩) rfl
              · rw [if_neg (fun z : oI (v.own o) = -1 => ow ((own_on h.2.2.2.2.1 ho).mp z)), if_neg ow, prB_n, k_wrongB w3.1 w6 w3.2.1, bd2_s, gbz, bd_s]
                exact SpR.no ⟨_, rfl, w3.bad⟩
            · rw [w1, w2, bd2_s, if_neg (by decide), prB_n, prB_n]
              exact SpR.no ⟨_, rfl, u3.bad⟩
          · rw [show (21 : Int32) = nI 21 from rfl, u2, bd2_s, if_pos rfl, if_neg u1, prB_s]
            exact e_w106 (ow := none) g3 hk ha hq (fun p z => nomatch z) rfl
        · rw [g1, g2, bd2_s, if_neg (by decide), prB_n]
          exact SpR.no ⟨_, rfl, d3.bad⟩
      · rw [show (14 : Int32) = nI 14 from rfl, d2, bd2_s, if_pos rfl, if_neg d1, if_neg (by decide)]
        exact SpR.no ⟨_, rfl, f3.bad⟩
    · rw [f1, f2, bd2_s, if_pos (by decide), prB_n, if_neg (by decide)]
      exact SpR.no ⟨_, rfl, c3.bad⟩
  · rw [show (20 : Int32) = nI 20 from rfl, c2, bd2_s, if_pos rfl, if_neg c1, if_pos (by decide), if_neg (by decide)]
    exact SpR.no ⟨_, rfl, h.bad⟩
theorem gb01 {r : Option (Int32 × Mem)} {pr : PR View} (h : SpR σ0 b T N e t r pr) : SpR σ0 b T N e t (bd2 r fun r62 σ62 => bd (gb r62) fun _ => some (r62, σ62)) pr := by
  refine ⟨fun v2 ev => ?_, fun ev => ?_⟩
  · obtain ⟨σ2, j2, a1, a2⟩ := h.1 v2 ev
    exact ⟨σ2, j2, by rw [a1]; rfl, a2⟩
  · obtain ⟨σ2, a1, a2⟩ := h.2 ev
    exact ⟨σ2, by rw [a1]; rfl, a2⟩
theorem e_sline (h : IS σ0 b T N e t v k j σ) : SpR σ0 b T N e t (X8_readLine 30 σ) (spLine b T v (ps b T j)) := by
  have W := h.2.2.2.2.1
  have R := h.2.2.2.2.2.1
  have h9 := W.n9
  have h6 := W.k6
  have l50 : term b T (ps b T j) ≠ 10 ∨ ¬ v.n < 9 → term b T (ps b T j) ≠ 11 ∨ ¬ v.k < 6 → SpR σ0 b T N e t (X8_readLine_50 30 σ) (spLine b T v (ps b T j)) := by
    intro n10 n11
    unfold X8_readLine_50 spLine
    rw [if_neg (by omega), if_neg (by omega)]
    rcases k_tk h (q := 23) (by omega) with ⟨c1, c2, c3⟩ | ⟨c1, c2⟩
    · rw [show (23 : Int32) = nI 23 from rfl, c2, bd2_s, if_neg (by decide), if_pos c1]
      exact gb01 (e_way c3)
    · rw [show (23 : Int32) = nI 23 from rfl, c2, bd2_s, if_pos rfl, if_neg c1]
      rcases k_tk h (q := 15) (by omega) with ⟨d1, d2, d3⟩ | ⟨d1, d2⟩
      · rw [show (15 : Int32) = nI 15 from rfl, d2, bd2_s, if_neg (by decide), if_pos d1]
        exact gb01 (e_likes d3)
      · rw [show (15 : Int32) = nI 15 from rfl, d2, bd2_s, if_pos rfl, if_neg d1]
        exact gb01 (e_time h)
  have l25 : term b T (ps b T j) ≠ 10 ∨ ¬ v.n < 9 → SpR σ0 b T N e t (X8_readLine_25 30 σ) (spLine b T v (ps b T j)) := by
    intro n10
    unfold X8_readLine_25
    rw [R.k]
    by_cases c0 : v.k < 6
    · rw [if_neg (show ¬ (6 : Int32) ≤ nI v.k from nI_ge (b := 6) c0 (by omega))]
      rcases k_tk h (q := 11) (by omega) with ⟨c1, c2, c3⟩ | ⟨c1, c2⟩
      · rw [show (11 : Int32) = nI 11 from rfl, c2, bd2_s, if_neg (by decide)]
        unfold spLine
        rw [if_neg (by omega), if_pos ⟨c1, c0⟩]
        exact gb01 (e_walk c3 c0)
      · rw [show (11 : Int32) = nI 11 from rfl, c2, bd2_s, if_pos rfl]
        exact l50 n10 (Or.inl c1)
    · rw [if_pos (show (6 : Int32) ≤ nI v.k from nI_le (a := 6) (by omega) (by omega))]
      exact l50 n10 (Or.inr c0)
  unfold X8_readLine
  rw [R.n]
  by_cases c0 : v.n < 9
  · rw [if_neg (show ¬ (9 : Int32) ≤ nI v.n from nI_ge (b := 9) c0 (by omega))]
    rcases k_tk h (q := 10) (by omega) with ⟨c1, c2, c3⟩ | ⟨c1, c2⟩
    · rw [show (10 : Int32) = nI 10 from rfl, c2, bd2_s, if_neg (by decide)]
      unfold spLine
      rw [if_pos ⟨c1, c0⟩]
      exact gb01 (e_pane c3 c0)
    · rw [show (10 : Int32) = nI 10 from rfl, c2, bd2_s, if_pos rfl]
      exact l25 (Or.inl c1)
  · rw [if_pos (show (9 : Int32) ≤ nI v.n from nI_le (a := 9) (by omega) (by omega))]
    exact l25 (Or.inr c0)
theorem e_readStreet (h : IS σ0 b T N e t v 0 0 σ) : ResG (IS σ0 b T N e t) (FrS σ0) (X8_readAll 30 σ) (rdAll b T (spLine b T) 14 v) := by
  unfold X8_readAll
  refine e_readG (RA := fun f x2 σ => X8_readAll_2 f 30 x2 σ) (RL := X8_readLine 30) (fin := X8_readAll_34) (mx := 14) (line := spLine b T) (I := IS σ0 b T N e t) (Bd := FrS σ0) (by omega) (by omega) (fun f x2 σ => rfl) (fun σ h => ?_) (fun σ f h hf => ?_) (fun a k j σ h => ⟨h.1, h.2.1, h.2.2.1, h.2.2.2.1⟩) (fun a k j σ h hj hl => h.now hj) (fun a k j σ f h => h.bad.2) (fun a k j σ h hk => ?_) h
  · unfold X8_readAll_34; rw [if_pos h]; rfl
  · unfold X8_readAll_34; rw [h, if_neg (nI_m1 (by omega))]; rfl
  · obtain ⟨s1, s2⟩ := e_sline h
    exact ⟨fun a2 ea => by obtain ⟨σ2, j2, q1, q2, q3⟩ := s1 a2 ea; exact ⟨σ2, j2, q1, q2, q3 (k + 1)⟩, s2⟩
end STREET2

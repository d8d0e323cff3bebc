/-! the text -/
/-- a byte of a word, and of five words -/
def byt (x : Int32) (q : Nat) : Int32 := (x >>> (nI (24 - 8 * q) &&& 31)) &&& 255
def byts (a : Nat → Int32) (q : Nat) : Int32 := byt (a (q / 4)) (q % 4)
section TAPE
variable {σ σ1 σ2 : Mem} {v : View} {L : Lw} {j : Nat} {x1 x2 x3 x4 x5 : Int32}
theorem hb255 : ∀ i, i < 32 → hb 255 i = decide (i < 8) := by decide +kernel
theorem sr_a {x : Int32} {s i : Nat} (hs : s ≤ 24) (hi : i < 8) : hb (x >>> (nI s &&& 31)) i = hb x (s + i) := by
  rw [hb_lsb (by omega), hb_lsb (by omega), sh31 s (by omega), Int32.toBitVec_shiftRight, sm31 s (by omega)]
  simp only [BitVec.sshiftRight', BitVec.toNat_ofNat, Nat.mod_eq_of_lt (show s < 2 ^ 32 by omega)]
  rw [BitVec.getLsbD_sshiftRight]
  simp only [decide_eq_false (show ¬ 32 ≤ i by omega), Bool.not_false, Bool.true_and]
  rw [if_pos (show s + i < 32 by omega)]
theorem us31 : ∀ s, s ≤ 24 → ((nI s).toUInt32 &&& Int32.toUInt32 31).toBitVec % 32 = BitVec.ofNat 32 s := by decide +kernel
theorem sr_l {x : Int32} {s i : Nat} (hs : s ≤ 24) (hi : i < 8) : hb ((x.toUInt32 >>> ((nI s).toUInt32 &&& Int32.toUInt32 31)).toInt32) i = hb x (s + i) := by
  rw [hb_lsb (by omega), hb_lsb (by omega)]
  show (x.toUInt32 >>> ((nI s).toUInt32 &&& Int32.toUInt32 31)).toBitVec.getLsbD i = _
  rw [UInt32.toBitVec_shiftRight, us31 s hs]
  show (x.toBitVec >>> (BitVec.ofNat 32 s)).getLsbD i = _
  rw [BitVec.ushiftRight_eq', BitVec.toNat_ofNat, Nat.mod_eq_of_lt (show s < 2 ^ 32 by omega), BitVec.getLsbD_ushiftRight]
theorem byt_l {x : Int32} {q : Nat} (hq : q < 4) : ((x.toUInt32 >>> ((nI (24 - 8 * q)).toUInt32 &&& Int32.toUInt32 31)).toInt32) &&& 255 = byt x q := ext32 fun i hi => by
  unfold byt
  rw [hb_and hi, hb_and hi, hb255 i hi]
  by_cases h : i < 8
  · rw [sr_a (by omega) h, sr_l (by omega) h]
  · rw [decide_eq_false h, Bool.and_false, Bool.and_false]
theorem byt_lt {x : Int32} {q : Nat} : ∃ y, y < 256 ∧ byt x q = nI y := by
  obtain ⟨m, m1, m2⟩ := mkN (f := hb (x >>> (nI (24 - 8 * q) &&& 31))) (n := 8) (by omega)
  refine ⟨m, m1, ?_⟩
  rw [← m2]
  unfold byt
  apply ext32
  intro i hi
  rw [hb_and hi, hb255 i hi, hb_mk (by omega) hi, Bool.and_comm]
/-- so many bytes put, of the component -/
def PutC (T : Nat) (a : Nat → Int32) (σ : Mem) (i : Nat) (τ : Mem) : Prop := τ 1 1 = nI (T + i) ∧ (τ 3 = fun k => if T ≤ k ∧ k < T + i then byts a (k - T) else σ 3 k) ∧ (∀ c, c ≠ 1 → c ≠ 3 → τ c = σ c) ∧ ∀ i, i ≠ 1 → τ 1 i = σ 1 i
theorem e_put {T : Nat} {a : Nat → Int32} {w : Nat} (hT : T + 20 ≤ 400) (hw : w < 5) {τ : Mem} (h : PutC T a σ (4 * w) τ) : ∃ τ2, X10_put (a w) τ = some τ2 ∧ PutC T a σ (4 * w + 4) τ2 := by
  have l3 : ln (2 + 1) = 400 := by decide +kernel
  have stp : ∀ (q f : Nat) (τ : Mem), q < 4 → PutC T a σ (4 * w + q) τ → ∃ τ2, X10_put_3 (f + 1) (a w) (nI (24 - 8 * q)) τ = X10_put_3 f (a w) (nI (24 - 8 * q) + -8) τ2 ∧ PutC T a σ (4 * w + q + 1) τ2 := by
    intro q f τ hq hP
    obtain ⟨p1, p2, p3, p4⟩ := hP
    have hlt : T + (4 * w + q) < 400 := by omega
    rw [X10_put_3, if_neg (nI_pos (by omega)), p1, e_set (by rw [l3]; exact hlt) (by rw [l3]; decide), bd_s, pu_s, bd_s, st_n (by decide), p1, nI_1]
    refine ⟨_, rfl, st_at, ?_, fun c c1 c2 => by rw [st_n c1, st_n c2]; exact p3 c c1 c2, fun i hi => by rw [st_at' hi, st_n (by decide)]; exact p4 i hi⟩
    rw [st_n (by decide), st_s, p2]
    funext k
    unfold upd
    dsimp only
    by_cases c : k = T + (4 * w + q)
    · rw [if_pos c, if_pos ⟨by omega, by omega⟩]
      unfold byts
      rw [show (k - T) / 4 = w by omega, show (k - T) % 4 = q by omega]; rfl
    · rw [if_neg c]
      by_cases c2 : T ≤ k ∧ k < T + (4 * w + q)
      · rw [if_pos c2, if_pos ⟨by omega, by omega⟩]
      · rw [if_neg c2, if_neg (by omega)]
  unfold X10_put
  obtain ⟨z, hz⟩ : ∃ z, FU = z + 5 := ⟨FU - 5, by rfl⟩
  obtain ⟨τ1, a1, b1⟩ := stp 0 (z + 4) τ (by omega) h
  obtain ⟨τ2, a2, b2⟩ := stp 1 (z + 3) τ1 (by omega) b1
  obtain ⟨τ3, a3, b3⟩ := stp 2 (z + 2) τ2 (by omega) b2
  obtain ⟨τ4, a4, b4⟩ := stp 3 (z + 1) τ3 (by omega) b3
  rw [hz, show (24 : Int32) = nI (24 - 8 * 0) from rfl, a1, show nI (24 - 8 * 0) + -8 = nI (24 - 8 * 1) from rfl, a2, show nI (24 - 8 * 1) + -8 = nI (24 - 8 * 2) from rfl, a3, show nI (24 - 8 * 2) + -8 = nI (24 - 8 * 3) from rfl, a4, X10_put_3, if_pos (by decide)]
  exact ⟨τ4, rfl, b4⟩
def arg5 (x1 x2 x3 x4 x5 : Int32) : Nat → Int32 := fun q => if q = 0 then x1 else if q = 1 then x2 else if q = 2 then x3 else if q = 3 then x4 else x5
def PutM (T : Nat) (a : Nat → Int32) (σ : Mem) (i : Nat) (τ : Mem) : Prop := τ 399 8 = nI (T + i) ∧ (τ 404 = fun k => if T ≤ k ∧ k < T + i then byts a (k - T) else σ 404 k) ∧ (∀ c, c ≠ 399 → c ≠ 404 → τ c = σ c) ∧ ∀ i, i ≠ 8 → τ 399 i = σ 399 i
theorem mod4 {a : Nat} (ha : a < 1000) : nI a - nI a / 4 * 4 = nI (a % 4) := by
  rw [show (4 : Int32) = nI 4 from rfl, pk_div (by omega) (by omega) (by omega), nI_mul, nI_subN (by omega)]
  congr 1
  omega
theorem m_feed {T : Nat} (hT : T + 20 ≤ 400) (h8 : σ 399 8 = nI T) : ∃ τ, X12_feed_23 FU x1 x2 x3 x4 x5 0 σ = some (nI (T + 20), τ) ∧ PutM T (arg5 x1 x2 x3 x4 x5) σ 20 τ := by
  have l4 : ln 404 = 400 := by decide +kernel
  rw [show (0 : Int32) = nI 0 from rfl]
  refine loop_P (L := fun f a i => X12_feed_23 f x1 x2 x3 x4 x5 i a) (P := fun i a => PutM T (arg5 x1 x2 x3 x4 x5) σ i a) (Q := fun r => ∃ τ, r = some (nI (T + 20), τ) ∧ PutM T (arg5 x1 x2 x3 x4 x5) σ 20 τ) (n := 20) (a := σ) (fun f a hP => ?_) (fun f a i hi hP => Or.inr ?_) (Nat.zero_le _) (FUb (by omega)) ⟨h8, by funext k; rw [if_neg (by omega)], fun _ _ _ => rfl, fun _ _ => rfl⟩
  · refine ⟨a, ?_, hP⟩
    rw [X12_feed_23, if_pos (by decide), hP.1]
  · have go : ∀ y : Int32, y = arg5 x1 x2 x3 x4 x5 (i / 4) → ∃ a', X12_feed_76 (X12_feed_23 f) x1 x2 x3 x4 x5 (nI i) y a = X12_feed_23 f x1 x2 x3 x4 x5 (nI (i + 1)) a' ∧ PutM T (arg5 x1 x2 x3 x4 x5) σ (i + 1) a' := by
      intro y hy
      obtain ⟨p1, p2, p3, p4⟩ := hP
      unfold X12_feed_76
      rw [mod4 (by omega), show (24 : Int32) = nI 24 from rfl, show (8 : Int32) = nI 8 from rfl, nI_mul, nI_subN (by omega), byt_l (Nat.mod_lt _ (by omega)), p1, au_nI (by rw [l4]; omega) (by omega), bd_s, pu_s, bd_s, st_n (by decide), p1, nI_1, nI_1]
      refine ⟨_, rfl, st_at, ?_, fun c c1 c2 => by rw [st_n c1, st_n c2]; exact p3 c c1 c2, fun i hi => by rw [st_at' hi, st_n (by decide)]; exact p4 i hi⟩
      rw [st_n (by decide), st_s, p2]
      funext k
      unfold upd
      dsimp only
      by_cases c : k = T + i
      · rw [if_pos c, if_pos ⟨by omega, by omega⟩]
        unfold byts
        rw [show k - T = i by omega, hy]
      · rw [if_neg c]
        by_cases c2 : T ≤ k ∧ k < T + i
        · rw [if_pos c2, if_pos ⟨by omega, by omega⟩]
        · rw [if_neg c2, if_neg (by omega)]
    rw [X12_feed_23, if_neg (show ¬ (20 : Int32) ≤ nI i from nI_ge (b := 20) (by omega) (by omega))]
    by_cases c4 : 4 ≤ i
    · rw [if_pos (show (4 : Int32) ≤ nI i from nI_le (a := 4) c4 (by omega))]
      by_cases c8 : 8 ≤ i
      · rw [if_pos (show (8 : Int32) ≤ nI i from nI_le (a := 8) c8 (by omega))]
        by_cases c12 : 12 ≤ i
        · rw [if_pos (show (12 : Int32) ≤ nI i from nI_le (a := 12) c12 (by omega))]
          by_cases c16 : 16 ≤ i
          · rw [if_pos (show (16 : Int32) ≤ nI i from nI_le (a := 16) c16 (by omega))]
            exact go x5 (by rw [show i / 4 = 4 by omega]; rfl)
          · rw [if_neg (show ¬ (16 : Int32) ≤ nI i from nI_ge (b := 16) (by omega) (by omega))]
            exact go x4 (by rw [show i / 4 = 3 by omega]; rfl)
        · rw [if_neg (show ¬ (12 : Int32) ≤ nI i from nI_ge (b := 12) (by omega) (by omega))]
          exact go x3 (by rw [show i / 4 = 2 by omega]; rfl)
      · rw [if_neg (show ¬ (8 : Int32) ≤ nI i from nI_ge (b := 8) (by omega) (by omega))]
        exact go x2 (by rw [show i / 4 = 1 by omega]; rfl)
    · rw [if_neg (show ¬ (4 : Int32) ≤ nI i from nI_ge (b := 4) (by omega) (by omega))]
      exact go x1 (by rw [show i / 4 = 0 by omega]; rfl)
/-- the rest, where only the texts changed -/
theorem tape_inv (hC : Core (1000 * j) σ v L) (hR : Rest (1000 * j) σ v.txt) (h1 : ∀ c, c ≠ 1 → c ≠ 3 → c ≠ 399 → c ≠ 404 → σ2 c = σ c) (h2 : ∀ i, i ≠ 0 → i ≠ 8 → σ2 399 i = σ 399 i) (hT : Tape σ2) : Inv (j + 1) σ2 := by
  obtain ⟨a1, a2, a3, a4, a5⟩ := hR
  obtain ⟨c1, c2, c3, c4, c5, c6⟩ := hC
  have f : ∀ c, 5 ≤ c → c < 399 → σ2 c = σ c := fun c q1 q2 => h1 c (by omega) (by omega) (by omega) (by omega)
  refine ⟨v, L, ⟨c1, (c2.move fun c q1 q2 => f c (by omega) (by omega)).mono (by omega), by rw [h1 400 (by decide) (by decide) (by decide) (by decide)]; exact c3, c4.move fun c q1 q2 => f c (by omega) (by omega), c5, by rw [f 72 (by omega) (by omega)]; exact c6⟩, ?_, hT, (a3.move (fun c q1 q2 => f c (by omega) (by omega)) (h2 6 (by decide) (by decide)) (h1 403 (by decide) (by decide) (by decide) (by decide))).mono (by omega), (a4.move (h1 0 (by decide) (by decide) (by decide) (by decide)) (fun c hc => f c (by omega) (by omega)) (h2 3 (by decide) (by decide)) (h1 401 (by decide) (by decide) (by decide) (by decide))).mono (by omega), ?_⟩
  · unfold BO; rw [h2 15 (by decide) (by decide), h2 17 (by decide) (by decide)]; exact a1
  · unfold Mis
    rw [f 391 (by omega) (by omega), f 398 (by omega) (by omega)]
    exact a5
theorem r_0 (hC : Core (1000 * j) σ v L) (hR : Rest (1000 * j) σ v.txt) : ∃ σ3, lw_0 x1 x2 x3 x4 x5 σ = some (true, σ3) ∧ Inv (j + 1) σ3 := by
  obtain ⟨⟨T, t1, t2, t3, t4⟩, t5⟩ := id hR.2.1
  by_cases c : T ≤ 380
  · have P0 : PutC T (arg5 x1 x2 x3 x4 x5) σ (4 * 0) σ := ⟨t2, by funext k; rw [if_neg (by omega)], fun _ _ _ => rfl, fun _ _ => rfl⟩
    obtain ⟨τ1, a1, b1⟩ := e_put (by omega) (w := 0) (by omega) P0
    obtain ⟨τ2, a2, b2⟩ := e_put (by omega) (w := 1) (by omega) b1
    obtain ⟨τ3, a3, b3⟩ := e_put (by omega) (w := 2) (by omega) b2
    obtain ⟨τ4, a4, b4⟩ := e_put (by omega) (w := 3) (by omega) b3
    obtain ⟨τ5, a5, b5⟩ := e_put (by omega) (w := 4) (by omega) b4
    obtain ⟨p1, p2, p3, p4⟩ := b5
    have hA : X11_feed x1 x2 x3 x4 x5 σ = some (nI (T + 20), τ5) := by
      unfold X11_feed
      rw [t2, if_pos (show nI T ≤ 380 from nI_le (b := 380) c (by omega)), show X10_put x1 σ = _ from a1, bd_s, show X10_put x2 τ1 = _ from a2, bd_s, show X10_put x3 τ2 = _ from a3, bd_s, show X10_put x4 τ3 = _ from a4, bd_s, show X10_put x5 τ4 = _ from a5, bd_s, p1]
    have h399 : τ5 399 = σ 399 := p3 399 (by decide) (by decide)
    obtain ⟨ρ, r1, r2, r3, r4, r5⟩ := m_feed (σ := st τ5 399 0 0) (x1 := x1) (x2 := x2) (x3 := x3) (x4 := x4) (x5 := x5) (T := T) (by omega) (by rw [st_at' (by decide), h399]; exact t3)
    refine road1 (Bf := fun τ => X12_feed x1 x2 x3 x4 x5 τ) hA (σ2 := ρ) ?_ ?_
    · unfold X12_feed
      rw [pu_s, bd_s, st_at' (by decide), h399, t3, show (20 : Int32) = nI 20 from rfl, nI_add, if_pos (show nI (T + 20) ≤ 400 from nI_le (b := 400) (by omega) (by omega)), r1]
    · have g : ∀ c, c ≠ 1 → c ≠ 3 → c ≠ 399 → c ≠ 404 → ρ c = σ c := fun c c1 c2 c3 c4 => by rw [r4 c c3 c4, st_n c3, p3 c c1 c2]
      have g9 : ∀ i, i ≠ 0 → i ≠ 8 → ρ 399 i = σ 399 i := fun i i1 i2 => by rw [r5 i i2, st_at' i1, h399]
      have q1 : ρ 1 = τ5 1 := by rw [r4 1 (by decide) (by decide), st_n (by decide)]
      have q3 : ρ 3 = τ5 3 := by rw [r4 3 (by decide) (by decide), st_n (by decide)]
      have q404 : (st τ5 399 0 0) 404 = σ 404 := by rw [st_n (by decide), p3 404 (by decide) (by decide)]
      refine tape_inv hC hR g g9 ⟨⟨T + 20, by omega, by rw [q1, p1], r2, fun k hk => ?_⟩, by rw [q1, p4 6 (by decide), g9 12 (by decide) (by decide)]; exact t5⟩
      rw [q3, p2, r3, q404]
      dsimp only
      by_cases ck : T ≤ k ∧ k < T + (4 * 4 + 4)
      · rw [if_pos ck, if_pos (show T ≤ k ∧ k < T + 20 by omega)]
        exact ⟨rfl, byt_lt⟩
      · rw [if_neg ck, if_neg (show ¬ (T ≤ k ∧ k < T + 20) by omega)]
        exact t4 k (by omega)
  · refine road1 (Bf := fun τ => X12_feed x1 x2 x3 x4 x5 τ) (b := -1) (σ1 := σ) (σ2 := st σ 399 0 0) ?_ ?_ (inv_th hC hR)
    · unfold X11_feed
      rw [t2, if_neg (show ¬ nI T ≤ 380 from nI_ge (b := T) (a := 380) (by omega) (by omega))]
    · unfold X12_feed
      rw [pu_s, bd_s, st_at' (by decide), t3, show (20 : Int32) = nI 20 from rfl, nI_add, if_neg (show ¬ nI (T + 20) ≤ 400 from nI_ge (b := T + 20) (a := 400) (by omega) (by omega))]
theorem r_1 (hC : Core (1000 * j) σ v L) (hR : Rest (1000 * j) σ v.txt) : ∃ σ3, lw_1 x1 x2 x3 x4 x5 σ = some (true, σ3) ∧ Inv (j + 1) σ3 := by
  obtain ⟨⟨T, t1, t2, t3, t4⟩, t5⟩ := id hR.2.1
  by_cases c : isN (nI 0) (nI T) x1 = true
  · obtain ⟨n, -, hn, rfl⟩ := isN_t (by omega) (by omega) c
    refine road1 (Bf := fun τ => X12_end (nI n) τ) (b := nI 1) (σ1 := st σ 1 1 (nI n)) (σ2 := st (st (st σ 1 1 (nI n)) 399 0 0) 399 8 (nI n)) ?_ ?_ ?_
    · unfold X11_end
      rw [if_neg (nI_pos (by omega)), t2, if_pos (nI_le hn (by omega)), pu_s, bd_s]
      rfl
    · unfold X12_end
      rw [pu_s, bd_s, st_at' (by decide), st_n (by decide), t3, m_isN, show isN 0 (nI T) (nI n) = true from c, bd_s, if_neg (show ¬ b2i true = 0 by decide), pu_s, bd_s]
      rfl
    · refine tape_inv hC hR (fun c c1 c2 c3 c4 => by rw [st_n c3, st_n c3, st_n c1]) (fun i i1 i2 => by rw [st_at' i2, st_at' i1, st_n (by decide)]) ⟨⟨n, by omega, by rw [st_n (by decide), st_n (by decide), st_at], st_at, fun k hk => ?_⟩, ?_⟩
      · rw [st_n (by decide), st_n (by decide), st_n (by decide), st_n (by decide), st_n (by decide), st_n (by decide)]
        exact t4 k (by omega)
      · rw [st_n (by decide), st_n (by decide), st_at' (by decide), st_at' (by decide), st_at' (by decide), st_n (by decide)]
        exact t5
  · rw [Bool.not_eq_true] at c
    refine road1 (Bf := fun τ => X12_end x1 τ) (b := nI 0) (σ1 := σ) (σ2 := st σ 399 0 0) ?_ ?_ (inv_th hC hR)
    · unfold X11_end
      by_cases d0 : x1 < 0
      · rw [if_pos d0]; rfl
      · have d1 : ¬ x1 ≤ nI T := by
          intro d1
          unfold isN at c
          rw [decide_eq_true (show nI 0 ≤ x1 from Int32.not_lt.mp d0), decide_eq_true d1] at c
          cases c
        rw [if_neg d0, t2, if_neg d1]; rfl
    · unfold X12_end
      rw [pu_s, bd_s, st_at' (by decide), t3, m_isN, show isN 0 (nI T) x1 = false from c, bd_s, if_pos (show b2i false = 0 from rfl)]
      rfl
end TAPE

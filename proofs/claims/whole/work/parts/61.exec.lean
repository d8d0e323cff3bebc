/-! how a mirror is run: numbers as nI, reads as the view tells them, loops as iterations -/
theorem li0 : (0 : Int32) = nI 0 := rfl
theorem li1 : (1 : Int32) = nI 1 := rfl
theorem li2 : (2 : Int32) = nI 2 := rfl
theorem li3 : (3 : Int32) = nI 3 := rfl
theorem li4 : (4 : Int32) = nI 4 := rfl
theorem li5 : (5 : Int32) = nI 5 := rfl
theorem li6 : (6 : Int32) = nI 6 := rfl
theorem li7 : (7 : Int32) = nI 7 := rfl
theorem li8 : (8 : Int32) = nI 8 := rfl
theorem li9 : (9 : Int32) = nI 9 := rfl
theorem li10 : (10 : Int32) = nI 10 := rfl
theorem li11 : (11 : Int32) = nI 11 := rfl
theorem li12 : (12 : Int32) = nI 12 := rfl
theorem li13 : (13 : Int32) = nI 13 := rfl
theorem li14 : (14 : Int32) = nI 14 := rfl
theorem li15 : (15 : Int32) = nI 15 := rfl
theorem li16 : (16 : Int32) = nI 16 := rfl
theorem li17 : (17 : Int32) = nI 17 := rfl
theorem li18 : (18 : Int32) = nI 18 := rfl
theorem li19 : (19 : Int32) = nI 19 := rfl
theorem li20 : (20 : Int32) = nI 20 := rfl
theorem li21 : (21 : Int32) = nI 21 := rfl
theorem li22 : (22 : Int32) = nI 22 := rfl
theorem li23 : (23 : Int32) = nI 23 := rfl
theorem li24 : (24 : Int32) = nI 24 := rfl
theorem li25 : (25 : Int32) = nI 25 := rfl
theorem li26 : (26 : Int32) = nI 26 := rfl
theorem li27 : (27 : Int32) = nI 27 := rfl
theorem li28 : (28 : Int32) = nI 28 := rfl
theorem li29 : (29 : Int32) = nI 29 := rfl
theorem li30 : (30 : Int32) = nI 30 := rfl
theorem li31 : (31 : Int32) = nI 31 := rfl
theorem li32 : (32 : Int32) = nI 32 := rfl
theorem li39 : (39 : Int32) = nI 39 := rfl
theorem li40 : (40 : Int32) = nI 40 := rfl
theorem li41 : (41 : Int32) = nI 41 := rfl
theorem li43 : (43 : Int32) = nI 43 := rfl
theorem li47 : (47 : Int32) = nI 47 := rfl
theorem li48 : (48 : Int32) = nI 48 := rfl
theorem li57 : (57 : Int32) = nI 57 := rfl
theorem li59 : (59 : Int32) = nI 59 := rfl
theorem li60 : (60 : Int32) = nI 60 := rfl
theorem li62 : (62 : Int32) = nI 62 := rfl
theorem li63 : (63 : Int32) = nI 63 := rfl
theorem li64 : (64 : Int32) = nI 64 := rfl
theorem li81 : (81 : Int32) = nI 81 := rfl
theorem li97 : (97 : Int32) = nI 97 := rfl
theorem li99 : (99 : Int32) = nI 99 := rfl
theorem li100 : (100 : Int32) = nI 100 := rfl
theorem li122 : (122 : Int32) = nI 122 := rfl
theorem li128 : (128 : Int32) = nI 128 := rfl
theorem li152 : (152 : Int32) = nI 152 := rfl
theorem li188 : (188 : Int32) = nI 188 := rfl
theorem li189 : (189 : Int32) = nI 189 := rfl
theorem li190 : (190 : Int32) = nI 190 := rfl
theorem li191 : (191 : Int32) = nI 191 := rfl
theorem li192 : (192 : Int32) = nI 192 := rfl
theorem li255 : (255 : Int32) = nI 255 := rfl
theorem li299 : (299 : Int32) = nI 299 := rfl
theorem li380 : (380 : Int32) = nI 380 := rfl
theorem li400 : (400 : Int32) = nI 400 := rfl
theorem li488 : (488 : Int32) = nI 488 := rfl
theorem li888 : (888 : Int32) = nI 888 := rfl
theorem li999 : (999 : Int32) = nI 999 := rfl
theorem li1000 : (1000 : Int32) = nI 1000 := rfl
theorem li5368 : (5368 : Int32) = nI 5368 := rfl
theorem li9999 : (9999 : Int32) = nI 9999 := rfl
theorem neg1 : -nI 1 = oI none := rfl
theorem neg2 : (-nI 2 : Int32) = -2 := rfl
theorem sh1 {p : Nat} : nI 1 <<< (nI p &&& nI 31) = bitv p := rfl
theorem xorN {x : Int32} : x ^^^ oI none = ~~~x := ext32 fun i hi => by rw [hb_xor hi, hb_not hi, show oI none = -1 from rfl, hb_m1 hi]; simp
theorem pu_s {σ : Mem} {k i : Nat} {x : Int32} : pu σ k i x = some (st σ k i x) := rfl
theorem gb0 : gb (nI 0) = some () := rfl
theorem gb1 : gb (nI 1) = some () := rfl
theorem b2i_z {b : Bool} : (b2i b = nI 0) ↔ b = false := by cases b <;> decide
theorem b2i_o {b : Bool} : (b2i b = nI 1) ↔ b = true := by cases b <;> decide
theorem b2i_e {b c : Bool} : (b2i b = b2i c) ↔ b = c := by cases b <;> cases c <;> decide
theorem b2i_t : b2i true = nI 1 := rfl
theorem b2i_f : b2i false = nI 0 := rfl
theorem oI_s {w : Nat} : oI (some w) = nI w := rfl
theorem nI_on {a : Nat} (h : a < 2 ^ 31) : (nI a = oI none) ↔ False := ⟨nI_m1 h, False.elim⟩
theorem on_nI {a : Nat} (h : a < 2 ^ 31) : (oI none = nI a) ↔ False := ⟨fun e => nI_m1 h e.symm, False.elim⟩
theorem on_on : (oI none = oI none) ↔ True := ⟨fun _ => trivial, fun _ => rfl⟩
theorem le_on {a : Nat} (h : a < 2 ^ 31) : (nI a ≤ oI none) ↔ False := by
  constructor
  · intro e
    have e := Int32.le_iff_toInt_le.mp e
    rw [nI_toInt h, show (oI none).toInt = -1 from rfl] at e
    omega
  · exact False.elim
theorem on_lt {a : Nat} (h : a < 2 ^ 31) : (oI none < nI a) ↔ True := by
  constructor
  · intro _; trivial
  · intro _
    rw [Int32.lt_iff_toInt_lt, nI_toInt h, show (oI none).toInt = -1 from rfl]
    omega
theorem on_le {a : Nat} (h : a < 2 ^ 31) : (oI none ≤ nI a) ↔ True := by
  constructor
  · intro _; trivial
  · intro _
    rw [Int32.le_iff_toInt_le, nI_toInt h, show (oI none).toInt = -1 from rfl]
    omega
theorem lt_on {a : Nat} (h : a < 2 ^ 31) : (nI a < oI none) ↔ False := by
  constructor
  · intro e
    have e := Int32.lt_iff_toInt_lt.mp e
    rw [nI_toInt h, show (oI none).toInt = -1 from rfl] at e
    omega
  · exact False.elim
theorem nI_subon (a : Nat) : nI a - oI none = nI (a + 1) := by
  rw [show oI none = -1 from rfl, Int32.sub_neg, nI_1]
theorem nI_addon {a : Nat} (h : 0 < a) : nI a + oI none = nI (a - 1) := nI_m1p h
theorem st_ap {σ : Mem} {k i b j : Nat} {x : Int32} : st σ k i x b j = if b = k ∧ j = i then x else σ b j := by
  by_cases h : b = k
  · subst h
    by_cases h2 : j = i
    · subst h2; rw [st_at, if_pos ⟨rfl, rfl⟩]
    · rw [st_at' h2, if_neg (fun q => h2 q.2)]
  · rw [st_n h, if_neg (fun q => h q.1)]
def iterN {α : Type} (g : α → Nat → α) (a : α) : Nat → α
  | 0 => a
  | n + 1 => g (iterN g a n) n
theorem iter_congr {α : Type} {g g2 : α → Nat → α} {a : α} {n : Nat} (h : ∀ x i, i < n → g x i = g2 x i) : iterN g a n = iterN g2 a n := by
  induction n with
  | zero => rfl
  | succ n ih => rw [iterN, iterN, ih (fun x i hi => h x i (by omega)), h _ n (by omega)]
theorem iter_ind {α : Type} {g : α → Nat → α} {a : α} {n : Nat} (P : Nat → α → Prop) (h0 : P 0 a) (h1 : ∀ i x, i < n → P i x → P (i + 1) (g x i)) : P n (iterN g a n) := by
  have : ∀ m, m ≤ n → P m (iterN g a m) := by
    intro m
    induction m with
    | zero => intro _; exact h0
    | succ m ih => intro hm; exact h1 m _ (by omega) (ih (by omega))
  exact this n (Nat.le_refl _)
theorem FUb {n : Nat} (h : n < 100000) : n < FU := h
/-- a loop that reads -/
theorem loop_g {α β : Type} {L : Nat → α → Int32 → Option β} {g : α → Nat → α} {out : α → Option β} {n : Nat} (h0 : ∀ f a, L (f + 1) a (nI n) = out a) (h1 : ∀ f a i, i < n → L (f + 1) a (nI i) = L f (g a i) (nI (i + 1))) (a : α) (i0 fuel : Nat) (hi : i0 ≤ n) (hf : n < fuel) : ∀ a, L fuel a (nI i0) = out (iterN (fun x i => g x (i0 + i)) a (n - i0)) := by
  have key : ∀ (m i f : Nat) (a : α), i + m = n → m < f → L f a (nI i) = out (iterN (fun x j => g x (i + j)) a m) := by
    intro m
    induction m with
    | zero =>
      intro i f a h hf
      obtain ⟨f, rfl⟩ : ∃ z, f = z + 1 := ⟨f - 1, by omega⟩
      rw [show i = n by omega, h0]; rfl
    | succ m ih =>
      intro i f a h hf
      obtain ⟨f, rfl⟩ : ∃ z, f = z + 1 := ⟨f - 1, by omega⟩
      rw [h1 f a i (by omega), ih (i + 1) f _ (by omega) (by omega)]
      congr 1
      have : ∀ m, iterN (fun x j => g x (i + 1 + j)) (g a i) m = iterN (fun x j => g x (i + j)) a (m + 1) := by
        intro m
        induction m with
        | zero => rfl
        | succ m ih2 => rw [iterN, ih2]; show _ = g (iterN (fun x j => g x (i + j)) a (m + 1)) (i + (m + 1)); rw [show i + 1 + m = i + (m + 1) by omega]
      exact this m
  intro a
  exact key (n - i0) i0 fuel a (by omega) (by omega)
theorem loop_r {α β : Type} {L : Nat → α → Int32 → Option β} {g : α → Nat → α} {out : α → Option β} {n : Nat} (h0 : ∀ f a, L (f + 1) a (nI n) = out a) (h1 : ∀ f a i, i < n → L (f + 1) a (nI i) = L f (g a i) (nI (i + 1))) (a : α) {fuel : Nat} (hf : n < fuel) : L fuel a (nI 0) = out (iterN g a n) := by
  have := loop_g h0 h1 a 0 fuel (Nat.zero_le _) hf a
  rw [this]
  simp only [Nat.zero_add, Nat.sub_zero]
/-- a loop that keeps an invariant -/
theorem loop_P {α β : Type} {L : Nat → α → Int32 → Option β} {P : Nat → α → Prop} {Q : Option β → Prop} {n : Nat} (h0 : ∀ f a, P n a → Q (L (f + 1) a (nI n))) (h1 : ∀ f a i, i < n → P i a → Q (L (f + 1) a (nI i)) ∨ ∃ a', L (f + 1) a (nI i) = L f a' (nI (i + 1)) ∧ P (i + 1) a') {i0 fuel : Nat} {a : α} (hi : i0 ≤ n) (hf : n < fuel) (hP : P i0 a) : Q (L fuel a (nI i0)) := by
  have key : ∀ (m i f : Nat) (a : α), i + m = n → m < f → P i a → Q (L f a (nI i)) := by
    intro m
    induction m with
    | zero =>
      intro i f a h hf hp
      obtain ⟨f, rfl⟩ : ∃ z, f = z + 1 := ⟨f - 1, by omega⟩
      have : i = n := by omega
      subst this
      exact h0 f a hp
    | succ m ih =>
      intro i f a h hf hp
      obtain ⟨f, rfl⟩ : ∃ z, f = z + 1 := ⟨f - 1, by omega⟩
      rcases h1 f a i (by omega) hp with q | ⟨a', e, p⟩
      · exact q
      · rw [e]; exact ih (i + 1) f a' (by omega) (by omega) p
  exact key (n - i0) i0 fuel a (by omega) (by omega) hP
/-- a loop that goes down -/
theorem loop_d {α β : Type} {L : Nat → α → Int32 → Option β} {g : α → Nat → α} {out : α → Option β} (h0 : ∀ f a, L (f + 1) a (oI none) = out a) (h1 : ∀ f a i n, i < n → L (f + 1) a (nI i) = L f (g a i) (nI i + oI none)) : ∀ (n fuel : Nat) (a : α), n < fuel → L fuel a (nI n - nI 1) = out (iterN (fun x i => g x (n - 1 - i)) a n) := by
  intro n
  induction n with
  | zero =>
    intro fuel a hf
    obtain ⟨f, rfl⟩ : ∃ z, fuel = z + 1 := ⟨fuel - 1, by omega⟩
    exact h0 f a
  | succ n ih =>
    intro fuel a hf
    obtain ⟨f, rfl⟩ : ∃ z, fuel = z + 1 := ⟨fuel - 1, by omega⟩
    rw [show nI (n + 1) - nI 1 = nI n from nI_pred n, h1 f a n (n + 1) (by omega)]
    rw [show nI n + oI none = nI n - nI 1 from by rw [show oI none = -nI 1 from rfl, ← Int32.sub_eq_add_neg], ih f _ (by omega)]
    congr 1
    have : ∀ (q : Nat) (a : α), iterN (fun x i => g x (n - 1 - i)) (g a n) q = iterN (fun x i => g x (n + 1 - 1 - i)) a (q + 1) := by
      intro q a
      induction q with
      | zero => rfl
      | succ q ih2 => rw [iterN, ih2]; show _ = g (iterN (fun x i => g x (n + 1 - 1 - i)) a (q + 1)) (n + 1 - 1 - (q + 1)); rw [show n - 1 - q = n + 1 - 1 - (q + 1) by omega]
    exact this n a
section READ
variable {σ : Mem} {B : Nat} {v : View} {e : Nat}
theorem far_lt {p q t : Nat} (h : v.far p q = some t) : t < 9 := (far_some.mp h).1
theorem far_on {p q : Nat} : (oI (v.far p q) = oI none) ↔ v.far p q = none := oI_m1 fun w h => by have := far_lt h; omega
theorem own_on (W : WF v) {p : Nat} (hp : p < v.n) : (oI (v.own p) = oI none) ↔ v.own p = none := oI_m1 (W.own31 hp)
theorem hd_on (W : WF v) {w : Nat} (hw : w < v.k) : (oI (v.hd w) = oI none) ↔ v.hd w = none := oI_m1 (W.hd31 hw)
theorem oI_nI {x : Option Nat} (h : ∀ w, x = some w → w < 2 ^ 31) {w : Nat} (hw : w < 2 ^ 31) : (oI x = nI w) ↔ x = some w := by
  cases x with
  | none => exact ⟨fun z => absurd z.symm (nI_m1 hw), fun z => nomatch z⟩
  | some o => exact ⟨fun z => congrArg some (nI_inj (h o rfl) hw z), fun z => by cases z; rfl⟩
theorem own_is (W : WF v) {p : Nat} (hp : p < v.n) {w : Nat} (hw : w < 2 ^ 31) : (oI (v.own p) = nI w) ↔ v.own p = some w := oI_nI (W.own31 hp) hw
theorem hd_is (W : WF v) {x : Nat} (hx : x < v.k) {w : Nat} (hw : w < 2 ^ 31) : (oI (v.hd x) = nI w) ↔ v.hd x = some w := oI_nI (W.hd31 hx) hw
theorem G_oil (hB : kd B = 2) (W : WF v) (R : SC σ B v e) {b p : Nat} (hb : b = B + 1) (hp : p < v.n) : X6_get σ b (nI p) = some (nI (v.oil p)) := by rw [hb]; exact g_oil hB W R hp
theorem G_own (hB : kd B = 2) (W : WF v) (R : SC σ B v e) {b p : Nat} (hb : b = B + 3) (hp : p < v.n) : X6_get σ b (nI p) = some (oI (v.own p)) := by rw [hb]; exact g_own hB W R hp
theorem G_dark (hB : kd B = 2) (W : WF v) (R : SC σ B v e) {b p : Nat} (hb : b = B + 5) (hp : p < v.n) : X6_get σ b (nI p) = some (nI (v.dark p)) := by rw [hb]; exact g_dark hB W R hp
theorem G_way (hB : kd B = 2) (W : WF v) (R : SC σ B v e) {b p : Nat} (hb : b = B + 7) (hp : p < v.n) : X6_get σ b (nI p) = some (mkB (v.way p) v.n) := by rw [hb]; exact g_way hB W R hp
theorem G_pl (hB : kd B = 2) (W : WF v) (R : SC σ B v e) {b p : Nat} (hb : b = B + 9) (hp : p < v.k) : X6_get σ b (nI p) = some (nI (v.pl p)) := by rw [hb]; exact g_pl hB W R hp
theorem G_tp (hB : kd B = 2) (W : WF v) (R : SC σ B v e) {b p : Nat} (hb : b = B + 11) (hp : p < v.k) : X6_get σ b (nI p) = some (nI (v.tp p)) := by rw [hb]; exact g_tp hB W R hp
theorem G_hd (hB : kd B = 2) (W : WF v) (R : SC σ B v e) {b p : Nat} (hb : b = B + 13) (hp : p < v.k) : X6_get σ b (nI p) = some (oI (v.hd p)) := by rw [hb]; exact g_hd hB W R hp
theorem G_lt (hB : kd B = 2) (W : WF v) (R : SC σ B v e) {b p : Nat} (hb : b = B + 15) (hp : p < v.k) : X6_get σ b (nI p) = some (nI (v.lt p)) := by rw [hb]; exact g_lt hB W R hp
theorem o_oil (W : WF v) (M : SM (σ 400) v) {p : Nat} (hp : p < v.n) : X12_of σ (nI p) (nI 0) = some (nI (v.oil p)) := by rw [m_of W hp (by omega)]; exact congrArg some (M.oil p hp)
theorem o_burn (W : WF v) (M : SM (σ 400) v) {p : Nat} (hp : p < v.n) : X12_of σ (nI p) (nI 1) = some (b2i (v.burn p)) := by rw [m_of W hp (by omega)]; exact congrArg some (M.burn p hp)
theorem o_own (W : WF v) (M : SM (σ 400) v) {p : Nat} (hp : p < v.n) : X12_of σ (nI p) (nI 2) = some (oI (v.own p)) := by rw [m_of W hp (by omega)]; exact congrArg some (M.own p hp)
theorem o_dark (W : WF v) (M : SM (σ 400) v) {p : Nat} (hp : p < v.n) : X12_of σ (nI p) (nI 3) = some (nI (v.dark p)) := by rw [m_of W hp (by omega)]; exact congrArg some (M.dark p hp)
theorem o_pl (W : WF v) (M : SM (σ 400) v) {p : Nat} (hp : p < v.k) : X12_ofWalker σ (nI p) (nI 0) = some (nI (v.pl p)) := by rw [m_ofWalker W hp (by omega)]; exact congrArg some (M.pl p hp)
theorem o_tp (W : WF v) (M : SM (σ 400) v) {p : Nat} (hp : p < v.k) : X12_ofWalker σ (nI p) (nI 1) = some (nI (v.tp p)) := by rw [m_ofWalker W hp (by omega)]; exact congrArg some (M.tp p hp)
theorem o_hd (W : WF v) (M : SM (σ 400) v) {p : Nat} (hp : p < v.k) : X12_ofWalker σ (nI p) (nI 2) = some (oI (v.hd p)) := by rw [m_ofWalker W hp (by omega)]; exact congrArg some (M.hd p hp)
theorem o_lt (W : WF v) (M : SM (σ 400) v) {p : Nat} (hp : p < v.k) : X12_ofWalker σ (nI p) (nI 3) = some (nI (v.lt p)) := by rw [m_ofWalker W hp (by omega)]; exact congrArg some (M.lt p hp)
theorem a_n (M : SM (σ 400) v) : ag σ 400 (nI 3) = some (nI v.n) := by rw [m_at (by omega), M.n]
theorem a_k (M : SM (σ 400) v) : ag σ 400 (nI 4) = some (nI v.k) := by rw [m_at (by omega), M.k]
theorem a_hour (M : SM (σ 400) v) : ag σ 400 (nI 5) = some (nI v.hour) := by rw [m_at (by omega), M.hour]
theorem a_night (M : SM (σ 400) v) : ag σ 400 (nI 6) = some (nI v.night) := by rw [m_at (by omega), M.night]
theorem a_fog (M : SM (σ 400) v) : ag σ 400 (nI 7) = some (nI v.fog) := by rw [m_at (by omega), M.fog]
theorem a_mist (M : SM (σ 400) v) : ag σ 400 (nI 8) = some (b2i v.mist) := by rw [m_at (by omega), M.mist]
theorem a_logs (M : SM (σ 400) v) : ag σ 400 (nI 9) = some (nI v.log.length) := by rw [m_at (by omega), M.logs]
theorem a_seed (M : SM (σ 400) v) : ag σ 400 (nI 10) = some v.seed := by rw [m_at (by omega), M.seed]
theorem a_texts (M : SM (σ 400) v) : ag σ 400 (nI 0) = some (nI v.texts) := by rw [m_at (by omega), M.texts]
theorem hbE {f : Nat → Bool} {n i : Nat} (hn : n ≤ 31) (hi : i < n) : hb (mkB f n) i = f i := by rw [hb_mk hn (by omega), decide_eq_true hi, Bool.true_and]
end READ

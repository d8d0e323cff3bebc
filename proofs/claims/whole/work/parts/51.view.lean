/-! the street without a memory -/
structure Rw where
  nt : Nat
  hr : Nat
  kd : Nat
  pn : Nat
  wk : Option Nat
structure View where
  n : Nat
  k : Nat
  texts : Nat
  hour : Nat
  night : Nat
  fog : Nat
  mist : Bool
  seed : Int32
  oil : Nat → Nat
  dark : Nat → Nat
  own : Nat → Option Nat
  burn : Nat → Bool
  way : Nat → Nat → Bool
  pl : Nat → Nat
  tp : Nat → Nat
  lt : Nat → Nat
  hd : Nat → Option Nat
  like : Nat → Nat → Nat
  log : List Rw
def oI : Option Nat → Int32
  | none => -1
  | some w => nI w
def Rw.ok (r : Rw) : Prop := r.nt ≤ 9999 ∧ r.hr < 24 ∧ r.kd ≤ 3 ∧ r.pn < 9 ∧ ∀ w, r.wk = some w → w < 6
def Rw.pk (r : Rw) : Nat := (((r.nt * 32 + r.hr) * 4 + r.kd) * 16 + r.pn) * 8 + (match r.wk with | none => 0 | some w => w + 1)
/-- what always holds of a street -/
structure WF (v : View) : Prop where
  n9 : v.n ≤ 9
  k6 : v.k ≤ 6
  texts : v.texts ≤ 12
  hour : v.hour < 24
  night : v.night ≤ 9999
  fog : v.fog ≤ 100
  oil : ∀ p, p < v.n → v.oil p ≤ 99
  dark : ∀ p, p < v.n → v.dark p ≤ 99
  own : ∀ p w, p < v.n → v.own p = some w → w < v.k
  one : ∀ p q w, p < v.n → q < v.n → v.own p = some w → v.own q = some w → p = q
  burn : ∀ p, p < v.n → v.burn p = true → 0 < v.oil p
  sym : ∀ p q, p < v.n → q < v.n → v.way p q = v.way q p
  irr : ∀ p, p < v.n → v.way p p = false
  pl : ∀ w, w < v.k → v.pl w < v.n
  tp : ∀ w, w < v.k → v.tp w ≤ 99
  lt : ∀ w, w < v.k → v.lt w ≤ 999
  hd : ∀ w p, w < v.k → v.hd w = some p → p < v.n
  like : ∀ w o, w < v.k → o < v.k → v.like w o ≤ 9
  self : ∀ w, w < v.k → v.like w w = 5
  log : v.log.length ≤ 60
  rows : ∀ r ∈ v.log, r.ok
/-- a street of the class at cell B; at most e rows were ever written -/
structure SC (σ : Mem) (B : Nat) (v : View) (e : Nat) : Prop where
  n : σ B 0 = nI v.n
  k : σ B 1 = nI v.k
  texts : σ B 2 = nI v.texts
  hour : σ B 3 = nI v.hour
  night : σ B 4 = nI v.night
  fog : σ B 5 = nI v.fog
  mist : σ B 6 = b2i v.mist
  seed : σ B 7 = v.seed
  burn : σ B 8 = mkB v.burn v.n
  oil : ∀ p, p < v.n → σ (B + 2) p = nI (v.oil p)
  own : ∀ p, p < v.n → σ (B + 4) p = oI (v.own p)
  dark : ∀ p, p < v.n → σ (B + 6) p = nI (v.dark p)
  way : ∀ p, p < v.n → σ (B + 8) p = mkB (v.way p) v.n
  pl : ∀ w, w < v.k → σ (B + 10) w = nI (v.pl w)
  tp : ∀ w, w < v.k → σ (B + 12) w = nI (v.tp w)
  hd : ∀ w, w < v.k → σ (B + 14) w = oI (v.hd w)
  lt : ∀ w, w < v.k → σ (B + 16) w = nI (v.lt w)
  like : ∀ w o, w < v.k → o < v.k → σ (B + 18) (6 * w + o) = nI (v.like w o)
  log : ∃ c, c ≤ e ∧ σ B 19 = nI c ∧ min c 60 = v.log.length ∧ ∀ a r, v.log[a]? = some r → σ (B + 20) ((c - 1 - a) % 60) = nI r.pk
/-- a street of the reference, in a row of numbers -/
structure SM (a : Nat → Int32) (v : View) : Prop where
  texts : a 0 = nI v.texts
  n : a 3 = nI v.n
  k : a 4 = nI v.k
  hour : a 5 = nI v.hour
  night : a 6 = nI v.night
  fog : a 7 = nI v.fog
  mist : a 8 = b2i v.mist
  logs : a 9 = nI v.log.length
  seed : a 10 = v.seed
  oil : ∀ p, p < v.n → a (11 + 4 * p) = nI (v.oil p)
  burn : ∀ p, p < v.n → a (11 + 4 * p + 1) = b2i (v.burn p)
  own : ∀ p, p < v.n → a (11 + 4 * p + 2) = oI (v.own p)
  dark : ∀ p, p < v.n → a (11 + 4 * p + 3) = nI (v.dark p)
  way : ∀ p q, p < v.n → q < v.n → a (47 + 9 * p + q) = b2i (v.way p q)
  pl : ∀ w, w < v.k → a (128 + 4 * w) = nI (v.pl w)
  tp : ∀ w, w < v.k → a (128 + 4 * w + 1) = nI (v.tp w)
  hd : ∀ w, w < v.k → a (128 + 4 * w + 2) = oI (v.hd w)
  lt : ∀ w, w < v.k → a (128 + 4 * w + 3) = nI (v.lt w)
  like : ∀ w o, w < v.k → o < v.k → a (152 + 6 * w + o) = nI (v.like w o)
  log : ∀ i r, v.log[i]? = some r → a (188 + 5 * i) = nI r.nt ∧ a (188 + 5 * i + 1) = nI r.hr ∧ a (188 + 5 * i + 2) = nI r.kd ∧ a (188 + 5 * i + 3) = nI r.pn ∧ a (188 + 5 * i + 4) = oI r.wk
/-! rows and blocks, read and written -/
theorem ag_nI {σ : Mem} {k i : Nat} (h : i < ln k) (h2 : i < 2 ^ 31) : ag σ k (nI i) = some (σ k i) := by
  unfold ag
  rw [nI_clamp h2, if_neg (by rintro (q | q); exact nI_pos h2 q; omega)]
theorem au_nI {σ : Mem} {k i : Nat} {x : Int32} (h : i < ln k) (h2 : i < 2 ^ 31) : au σ k (nI i) x = some (st σ k i x) := by
  unfold au
  rw [nI_clamp h2, if_neg (by rintro (q | q); exact nI_pos h2 q; omega)]
theorem e_get {σ : Mem} {B i : Nat} (h : i < ln (B + 1)) (h2 : ln (B + 1) < 2 ^ 31) : X6_get σ B (nI i) = some (σ (B + 1) i) := by
  unfold X6_get
  rw [if_neg (nI_pos (by omega)), if_neg (nI_ge h h2), ag_nI h (by omega)]
  rfl
theorem e_set {σ : Mem} {B i : Nat} {x : Int32} (h : i < ln (B + 1)) (h2 : ln (B + 1) < 2 ^ 31) : X6_set B (nI i) x σ = some (st σ (B + 1) i x) := by
  unfold X6_set
  rw [if_neg (nI_pos (by omega)), if_neg (nI_ge h h2), au_nI h (by omega)]
  rfl
theorem st_at {σ : Mem} {k i : Nat} {x : Int32} : st σ k i x k i = x := by rw [st_s]; simp [upd]
theorem st_at' {σ : Mem} {k i j : Nat} {x : Int32} (h : j ≠ i) : st σ k i x k j = σ k j := by rw [st_s]; simp [upd, h]
/-- where the streets are, and how long their rows -/
def isStreet (B : Nat) : Prop := kd B = 2
theorem ln_str_ : ∀ B, B < nC → kd B = 2 → ln (B + 2) = 9 ∧ ln (B + 4) = 9 ∧ ln (B + 6) = 9 ∧ ln (B + 8) = 9 ∧ ln (B + 10) = 6 ∧ ln (B + 12) = 6 ∧ ln (B + 14) = 6 ∧ ln (B + 16) = 6 ∧ ln (B + 18) = 36 ∧ ln (B + 20) = 60 := by decide +kernel
theorem ln_str {B : Nat} (h : kd B = 2) : ln (B + 2) = 9 ∧ ln (B + 4) = 9 ∧ ln (B + 6) = 9 ∧ ln (B + 8) = 9 ∧ ln (B + 10) = 6 ∧ ln (B + 12) = 6 ∧ ln (B + 14) = 6 ∧ ln (B + 16) = 6 ∧ ln (B + 18) = 36 ∧ ln (B + 20) = 60 := ln_str_ B (kd_lt (by rw [h]; decide)) h
section GETS
variable {σ : Mem} {B : Nat} {v : View} {e : Nat}
theorem g_oil (hB : kd B = 2) (W : WF v) (R : SC σ B v e) {p : Nat} (hp : p < v.n) : X6_get σ (B + 1) (nI p) = some (nI (v.oil p)) := by
  have := W.n9
  rw [e_get (by rw [(ln_str hB).1]; omega) (by rw [(ln_str hB).1]; decide), R.oil p hp]
theorem g_own (hB : kd B = 2) (W : WF v) (R : SC σ B v e) {p : Nat} (hp : p < v.n) : X6_get σ (B + 3) (nI p) = some (oI (v.own p)) := by
  have := W.n9
  rw [e_get (by rw [(ln_str hB).2.1]; omega) (by rw [(ln_str hB).2.1]; decide), R.own p hp]
theorem g_dark (hB : kd B = 2) (W : WF v) (R : SC σ B v e) {p : Nat} (hp : p < v.n) : X6_get σ (B + 5) (nI p) = some (nI (v.dark p)) := by
  have := W.n9
  rw [e_get (by rw [(ln_str hB).2.2.1]; omega) (by rw [(ln_str hB).2.2.1]; decide), R.dark p hp]
theorem g_way (hB : kd B = 2) (W : WF v) (R : SC σ B v e) {p : Nat} (hp : p < v.n) : X6_get σ (B + 7) (nI p) = some (mkB (v.way p) v.n) := by
  have := W.n9
  rw [e_get (by rw [(ln_str hB).2.2.2.1]; omega) (by rw [(ln_str hB).2.2.2.1]; decide), R.way p hp]
theorem g_pl (hB : kd B = 2) (W : WF v) (R : SC σ B v e) {w : Nat} (hw : w < v.k) : X6_get σ (B + 9) (nI w) = some (nI (v.pl w)) := by
  have := W.k6
  rw [e_get (by rw [(ln_str hB).2.2.2.2.1]; omega) (by rw [(ln_str hB).2.2.2.2.1]; decide), R.pl w hw]
theorem g_tp (hB : kd B = 2) (W : WF v) (R : SC σ B v e) {w : Nat} (hw : w < v.k) : X6_get σ (B + 11) (nI w) = some (nI (v.tp w)) := by
  have := W.k6
  rw [e_get (by rw [(ln_str hB).2.2.2.2.2.1]; omega) (by rw [(ln_str hB).2.2.2.2.2.1]; decide), R.tp w hw]
theorem g_hd (hB : kd B = 2) (W : WF v) (R : SC σ B v e) {w : Nat} (hw : w < v.k) : X6_get σ (B + 13) (nI w) = some (oI (v.hd w)) := by
  have := W.k6
  rw [e_get (by rw [(ln_str hB).2.2.2.2.2.2.1]; omega) (by rw [(ln_str hB).2.2.2.2.2.2.1]; decide), R.hd w hw]
theorem g_lt (hB : kd B = 2) (W : WF v) (R : SC σ B v e) {w : Nat} (hw : w < v.k) : X6_get σ (B + 15) (nI w) = some (nI (v.lt w)) := by
  have := W.k6
  rw [e_get (by rw [(ln_str hB).2.2.2.2.2.2.2.1]; omega) (by rw [(ln_str hB).2.2.2.2.2.2.2.1]; decide), R.lt w hw]
end GETS

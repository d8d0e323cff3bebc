/-! sets of few as masks -/
def bitv (i : Nat) : Int32 := (1 : Int32) <<< (nI i &&& 31)
def hb (x : Int32) (i : Nat) : Bool := decide (((x >>> (nI i &&& 31)) &&& 1) = 1)
def mkB (f : Nat → Bool) : Nat → Int32
  | 0 => 0
  | n + 1 => if f n = true then mkB f n ||| bitv n else mkB f n
theorem sh31 : ∀ i, i < 32 → (nI i &&& 31) = nI i := by decide +kernel
theorem sm31 : ∀ i, i < 32 → (nI i).toBitVec.smod 32 = BitVec.ofNat 32 i := by decide +kernel
theorem and1 (y : BitVec 32) : (y &&& 1#32 = 1#32) ↔ y.getLsbD 0 = true := by
  constructor
  · intro h
    have := congrArg (fun z => z.getLsbD 0) h
    simpa using this
  · intro h
    apply BitVec.eq_of_getLsbD_eq
    intro i hi
    by_cases h0 : i = 0
    · subst h0; simp [h]
    · simp [h0]
theorem hb_lsb {x : Int32} {i : Nat} (hi : i < 32) : hb x i = x.toBitVec.getLsbD i := by
  have e : ((x >>> (nI i &&& 31)) &&& 1 = 1) ↔ x.toBitVec.getLsbD i = true := by
    rw [sh31 i hi, ← Int32.toBitVec_inj]
    rw [Int32.toBitVec_and, Int32.toBitVec_shiftRight, sm31 i hi]
    have h1 : (1 : Int32).toBitVec = 1#32 := rfl
    rw [h1, and1]
    simp [BitVec.sshiftRight', BitVec.getLsbD_sshiftRight, Nat.mod_eq_of_lt (show i < 4294967296 by omega), hi, -BitVec.getLsbD_eq_getElem]
  unfold hb
  by_cases h : x.toBitVec.getLsbD i = true
  · rw [h, decide_eq_true (e.mpr h)]
  · rw [Bool.not_eq_true] at h
    rw [h, decide_eq_false (fun z => by rw [e.mp z] at h; cases h)]
theorem bitv_lsb {i j : Nat} (hi : i < 32) (hj : j < 32) : (bitv i).toBitVec.getLsbD j = decide (j = i) := by
  have h : ∀ i, i < 32 → ∀ j, j < 32 → (bitv i).toBitVec.getLsbD j = decide (j = i) := by decide +kernel
  exact h i hi j hj
theorem ext32 {x y : Int32} (h : ∀ i, i < 32 → hb x i = hb y i) : x = y := by
  apply Int32.toBitVec_inj.mp
  apply BitVec.eq_of_getLsbD_eq
  intro i hi
  have := h i hi
  rwa [hb_lsb hi, hb_lsb hi] at this
theorem hb_or {x y : Int32} {i : Nat} (hi : i < 32) : hb (x ||| y) i = (hb x i || hb y i) := by
  rw [hb_lsb hi, hb_lsb hi, hb_lsb hi, Int32.toBitVec_or, BitVec.getLsbD_or]
theorem hb_and {x y : Int32} {i : Nat} (hi : i < 32) : hb (x &&& y) i = (hb x i && hb y i) := by
  rw [hb_lsb hi, hb_lsb hi, hb_lsb hi, Int32.toBitVec_and, BitVec.getLsbD_and]
theorem hb_xor {x y : Int32} {i : Nat} (hi : i < 32) : hb (x ^^^ y) i = (hb x i ^^ hb y i) := by
  rw [hb_lsb hi, hb_lsb hi, hb_lsb hi, Int32.toBitVec_xor, BitVec.getLsbD_xor]
theorem hb_not {x : Int32} {i : Nat} (hi : i < 32) : hb (~~~x) i = !hb x i := by
  rw [hb_lsb hi, hb_lsb hi, Int32.toBitVec_not, BitVec.getLsbD_not]
  simp [hi]
theorem hb_bit {i j : Nat} (hi : i < 32) (hj : j < 32) : hb (bitv i) j = decide (j = i) := by rw [hb_lsb hj, bitv_lsb hi hj]
theorem hb_0 {i : Nat} (hi : i < 32) : hb 0 i = false := by rw [hb_lsb hi]; simp
theorem hb_m1 {i : Nat} (hi : i < 32) : hb (-1) i = true := by
  have h : ∀ i, i < 32 → hb (-1) i = true := by decide +kernel
  exact h i hi
theorem hb_mk {f : Nat → Bool} {n i : Nat} (hn : n ≤ 31) (hi : i < 32) : hb (mkB f n) i = (decide (i < n) && f i) := by
  induction n with
  | zero => rw [mkB, hb_0 hi]; simp
  | succ n ih =>
    have ih := ih (by omega)
    unfold mkB
    split
    · rename_i hf
      rw [hb_or hi, ih, hb_bit (by omega) hi]
      by_cases h : i = n
      · subst h; simp [hf]
      · have : decide (i < n + 1) = decide (i < n) := by simp; omega
        rw [this]; simp [h]
    · rename_i hf
      rw [ih]
      by_cases h : i = n
      · subst h; simp [hf]
      · have : decide (i < n + 1) = decide (i < n) := by simp; omega
        rw [this]
theorem mk_congr {f g : Nat → Bool} {n : Nat} (h : ∀ i, i < n → f i = g i) : mkB f n = mkB g n := by
  induction n with
  | zero => rfl
  | succ n ih =>
    unfold mkB
    rw [ih (fun i hi => h i (by omega)), h n (by omega)]
theorem mk_or {f g : Nat → Bool} {n : Nat} (hn : n ≤ 31) : mkB f n ||| mkB g n = mkB (fun i => f i || g i) n := ext32 fun i hi => by
  rw [hb_or hi, hb_mk hn hi, hb_mk hn hi, hb_mk hn hi]
  cases decide (i < n) <;> simp
theorem mk_and {f g : Nat → Bool} {n : Nat} (hn : n ≤ 31) : mkB f n &&& mkB g n = mkB (fun i => f i && g i) n := ext32 fun i hi => by
  rw [hb_and hi, hb_mk hn hi, hb_mk hn hi, hb_mk hn hi]
  cases decide (i < n) <;> simp
theorem mk_bit {n k : Nat} (hn : n ≤ 31) (hk : k < n) : bitv k = mkB (fun i => decide (i = k)) n := ext32 fun i hi => by
  rw [hb_bit (by omega) hi, hb_mk hn hi]
  by_cases h : i = k
  · subst h; simp [hk]
  · simp [h]
theorem mk_and_not {f : Nat → Bool} {x : Int32} {n : Nat} (hn : n ≤ 31) : mkB f n &&& ~~~x = mkB (fun i => f i && !hb x i) n := ext32 fun i hi => by
  rw [hb_and hi, hb_not hi, hb_mk hn hi, hb_mk hn hi, Bool.and_assoc]
theorem mk_and_x {f : Nat → Bool} {x : Int32} {n : Nat} (hn : n ≤ 31) : mkB f n &&& x = mkB (fun i => f i && hb x i) n := ext32 fun i hi => by
  rw [hb_and hi, hb_mk hn hi, hb_mk hn hi, Bool.and_assoc]
theorem mk_all : ∀ n, n ≤ 30 → bitv n - 1 = mkB (fun _ => true) n := by decide +kernel
theorem mk_0 {n : Nat} (hn : n ≤ 31) : (0 : Int32) = mkB (fun _ => false) n := ext32 fun i hi => by
  rw [hb_0 hi, hb_mk hn hi]; simp
theorem mk_inj {f g : Nat → Bool} {n : Nat} (hn : n ≤ 31) (h : mkB f n = mkB g n) : ∀ i, i < n → f i = g i := fun i hi => by
  have h1 := hb_mk (f := f) hn (show i < 32 by omega)
  rw [h, hb_mk hn (by omega)] at h1
  simpa [hi] using h1.symm
theorem mk_eq_0 {f : Nat → Bool} {n : Nat} (hn : n ≤ 31) : mkB f n = 0 ↔ ∀ i, i < n → f i = false := by
  constructor
  · intro h i hi
    rw [mk_0 hn] at h
    exact mk_inj hn h i hi
  · intro h
    rw [mk_0 hn]
    exact mk_congr h
/-- the two tests of a bit -/
theorem and1_01 (x : Int32) : x &&& 1 = 0 ∨ x &&& 1 = 1 := by
  by_cases h : x.toBitVec.getLsbD 0 = true
  · right
    apply Int32.toBitVec_inj.mp
    rw [Int32.toBitVec_and]
    exact (and1 _).mpr h
  · left
    apply Int32.toBitVec_inj.mp
    rw [Int32.toBitVec_and]
    apply BitVec.eq_of_getLsbD_eq
    intro i hi
    by_cases h0 : i = 0
    · subst h0
      rw [Bool.not_eq_true] at h
      simp [h, -BitVec.getLsbD_eq_getElem]
    · have h1 : (1 : Int32).toBitVec = 1#32 := rfl
      rw [h1]
      simp [h0]
def b2i (b : Bool) : Int32 := if b = true then 1 else 0
theorem b2i_0 {b : Bool} : b2i b = 0 ↔ b = false := by cases b <;> decide
theorem e_hasBit {σ : Mem} {x : Int32} {i : Nat} : X11_hasBit σ x (nI i) = some (b2i (hb x i)) := by
  unfold X11_hasBit hb
  rcases and1_01 (x >>> (nI i &&& 31)) with h | h
  · rw [if_pos h, h]; rfl
  · rw [h]; rfl
theorem e_isOf {σ : Mem} {x : Int32} {i : Nat} : X12_isOf σ x (nI i) = some (b2i (hb x i)) := by
  unfold X12_isOf hb
  rcases and1_01 (x >>> (nI i &&& 31)) with h | h
  · rw [h]; rfl
  · rw [h]; rfl
theorem e_bit {σ : Mem} {i : Nat} : X11_bit σ (nI i) = some (bitv i) := rfl

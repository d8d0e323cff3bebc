/-! the law without a memory: lines, each with its worth, whether it is a pass line, and the steps of its condition -/
abbrev Lw : Type := List (Int32 × Bool × List Int32)
def joinC (c x y : Int32) : Int32 := if c = -5 then x &&& y else if c = -4 then x ||| y else if c = -3 then (if x ≤ y then 0 else 1) else if c = -2 then (if y ≤ x then 0 else 1) else if c = -1 then x + y else x ||| y
def stepC (F : Nat → Int32) (c : Int32) (s : List Int32) : List Int32 :=
  if c < 1000 then
    if c < 0 then
      if c = -4 then match s with
        | x :: s => (1 - x) :: s
        | [] => []
      else match s with
        | y :: x :: s => joinC c x y :: s
        | s => s
    else c :: s
  else F (c.toNatClampNeg - 1000) :: s
def runC (F : Nat → Int32) : List Int32 → List Int32 → List Int32
  | [], s => s
  | c :: cs, s => runC F cs (stepC F c s)
theorem runC_app {F : Nat → Int32} : ∀ {a b s : List Int32}, runC F (a ++ b) s = runC F b (runC F a s) := by
  intro a
  induction a with
  | nil => intro b s; rfl
  | cons c a ih => intro b s; exact ih
/-- steps that never take from too small a stack, nor fill it beyond sixty -/
def depC : List Int32 → Nat → Option Nat
  | [], d => some d
  | c :: cs, d =>
    if c < 1000 then
      if c < 0 then
        if c = -4 then if 1 ≤ d then depC cs d else none
        else if 2 ≤ d then depC cs (d - 1) else none
      else if d < 60 then depC cs (d + 1) else none
    else if c ≤ 1008 ∧ d < 60 then depC cs (d + 1) else none
theorem depC_app : ∀ {a b : List Int32} {d : Nat}, depC (a ++ b) d = (depC a d).bind (depC b) := by
  intro a
  induction a with
  | nil => intro b d; rfl
  | cons c a ih =>
    intro b d
    simp only [List.cons_append, depC]
    split
    · split
      · split
        · split
          · exact ih
          · rfl
        · split
          · exact ih
          · rfl
      · split
        · exact ih
        · rfl
    · split
      · exact ih
      · rfl
def holdsC (F : Nat → Int32) (cs : List Int32) : Bool := match runC F cs [] with
  | [] => true
  | x :: _ => decide (x ≠ 0)
noncomputable def Lw.will (F : Nat → Int32) (L : Lw) (a : Int32) : Int32 := L.foldl (fun a l => if holdsC F l.2.2 = true then a + l.1 else a) a
noncomputable def Lw.pass (F : Nat → Int32) (L : Lw) : Bool := L.any (fun l => l.2.1 && holdsC F l.2.2)
noncomputable def Lw.off : Lw → Nat → Nat
  | [], _ => 0
  | _ :: _, 0 => 0
  | l :: L, i + 1 => l.2.2.length + Lw.off L i
theorem off_s : ∀ {L : Lw} {i : Nat} {l : Int32 × Bool × List Int32}, L[i]? = some l → Lw.off L (i + 1) = Lw.off L i + l.2.2.length := by
  intro L
  induction L with
  | nil => intro i l h; cases h
  | cons a L ih =>
    intro i l h
    cases i with
    | zero =>
      rw [List.getElem?_cons_zero] at h
      cases h
      show a.2.2.length + Lw.off L 0 = 0 + a.2.2.length
      have : Lw.off L 0 = 0 := by cases L <;> rfl
      omega
    | succ i =>
      rw [List.getElem?_cons_succ] at h
      have := ih h
      show a.2.2.length + Lw.off L (i + 1) = a.2.2.length + Lw.off L i + l.2.2.length
      omega
theorem off_mono {L : Lw} : ∀ {j i : Nat}, i ≤ j → j ≤ L.length → Lw.off L i ≤ Lw.off L j := by
  intro j
  induction j with
  | zero => intro i h _; rw [show i = 0 by omega]; exact Nat.le_refl _
  | succ j ih =>
    intro i h hj
    by_cases e : i = j + 1
    · rw [e]; exact Nat.le_refl _
    · have := ih (i := i) (by omega) (by omega)
      have := off_s (L := L) (i := j) (l := L[j]'(by omega)) (List.getElem?_eq_getElem _)
      omega
theorem off_le {L : Lw} {i : Nat} (h : i < L.length) : Lw.off L (i + 1) ≤ Lw.off L L.length := off_mono (by omega) (Nat.le_refl _)
/-- the law at cell 72 shows these lines -/
def LC (σ : Mem) (C : Nat) (L : Lw) : Prop :=
  (σ C 0 = nI L.length ∨ σ C 0 = oI none ∧ L = []) ∧ L.length ≤ 12 ∧ σ C 5 = nI (Lw.off L L.length) ∧ Lw.off L L.length ≤ 400 ∧
  (∀ i l, L[i]? = some l → σ (C + 2) i = l.1 ∧ σ (C + 4) i = b2i l.2.1 ∧ σ (C + 6) i = nI (Lw.off L (i + 1)) ∧ (∃ d, depC l.2.2 0 = some d) ∧ ∀ k c, l.2.2[k]? = some c → σ (C + 8) (Lw.off L i + k) = c)
theorem LC.move {σ σ' : Mem} {C : Nat} {L : Lw} (K : LC σ C L) (h : ∀ c, C ≤ c → c < C + 9 → σ' c = σ c) : LC σ' C L := by
  unfold LC at *
  rw [h C (by omega) (by omega), h (C + 2) (by omega) (by omega), h (C + 4) (by omega) (by omega), h (C + 6) (by omega) (by omega), h (C + 8) (by omega) (by omega)]
  exact K
noncomputable def View.facts (v : View) (w p likes taper : Nat) : Nat → Int32 := fun i =>
  if i = 0 then nI p else if i = 1 then nI w else if i = 2 then nI (v.oil p) else if i = 3 then nI (v.dark p) else if i = 4 then nI taper else if i = 5 then nI likes else if i = 6 then nI v.hour else if i = 7 then b2i (decide (v.own p ≠ none)) else if i = 8 then b2i v.mist else 0
noncomputable def View.will (v : View) (L : Lw) (w p likes taper : Nat) : Int32 := Lw.will (v.facts w p likes taper) L (nI likes)
noncomputable def View.pass (v : View) (L : Lw) (w p likes taper : Nat) : Bool := Lw.pass (v.facts w p likes taper) L
/-- whether a walker would light the lamp of a pane -/
noncomputable def View.lits (v : View) (L : Lw) (w p likes taper : Nat) : Bool :=
  if taper = 0 then false else if v.burn p = true then false else if v.oil p = 0 then false else if v.own p = some w then false else if v.will L w p likes taper < 5 then false else !v.pass L w p likes taper
/-! the component's side: looks, and holds -/
section LAWC
variable {σ : Mem} {B C : Nat} {v : View} {e : Nat} {L : Lw}
theorem kd_law_ : ∀ C, C < nC → kd C = kd 72 → ln (C + 2) = 12 ∧ ln (C + 4) = 12 ∧ ln (C + 6) = 12 ∧ ln (C + 8) = 400 ∧ ln (C + 10) = 9 ∧ ln (C + 12) = 64 := by decide +kernel
theorem kd_law {C : Nat} (h : kd C = kd 72) : ln (C + 2) = 12 ∧ ln (C + 4) = 12 ∧ ln (C + 6) = 12 ∧ ln (C + 8) = 400 ∧ ln (C + 10) = 9 ∧ ln (C + 12) = 64 := kd_law_ C (kd_lt (by rw [h]; decide +kernel)) h
theorem tFa_s : tFa (nI 10) = some (nI 0) ∧ tFa (nI 11) = some (nI 1) ∧ tFa (nI 12) = some (nI 2) ∧ tFa (nI 13) = some (nI 3) ∧ tFa (nI 14) = some (nI 4) ∧ tFa (nI 15) = some (nI 5) ∧ tFa (nI 16) = some (nI 6) ∧ tFa (nI 17) = some (nI 7) ∧ tFa (nI 18) = some (nI 8) := by decide +kernel
theorem get_st {k i b : Nat} {x y : Int32} (h : b + 1 ≠ k) : X6_get (st σ k i x) b y = X6_get σ b y := by
  unfold X6_get ag
  rw [st_n h]
theorem e_look (hB : kd B = 2) (hC : kd C = kd 72) (hs : B + 21 ≤ C ∨ C + 13 ≤ B) (W : WF v) (R : SC σ B v e) {w p likes taper : Nat} (hp : p < v.n) : ∃ σ', X3_look C B (nI w) (nI p) (nI likes) (nI taper) σ = some σ' ∧ (∀ i, i < 9 → σ' (C + 10) i = v.facts w p likes taper i) ∧ ∀ c, c ≠ C + 10 → σ' c = σ c := by
  have h9 := W.n9
  have l9 : ln (C + 9 + 1) = 9 := (kd_law hC).2.2.2.2.1
  obtain ⟨t0, t1, t2, t3, t4, t5, t6, t7, t8⟩ := tFa_s
  have es : ∀ (τ : Mem) (i : Nat) (x : Int32), i < 9 → X6_set (C + 9) (nI i) x τ = some (st τ (C + 10) i x) := fun τ i x hi => e_set (by rw [l9]; omega) (by rw [l9]; decide)
  unfold X3_look X3_look_144
  simp only [li10, li11, li12, li13, li14, li15, li16, li17, li18, t0, t1, t2, t3, t4, t5, t6, t7, t8, bd_s]
  simp -implicitDefEqProofs (disch := omega) only [es, get_st, st_n, Nat.reduceLT, bd_s, bd2_s, bdx_l, bdx_r, bdx2_l, bdx2_r, pu_s, gb0, gb1, gb_b, li0, li1, li2, li3, li4, li5, li6, li7, li8, li9, li10, li11, li12, li13, li14, li15, li16, li17, li18, li19, li20, li21, li22, li23, li24, li25, li26, li27, li28, li29, li30, li31, li32, li39, li40, li41, li43, li47, li48, li57, li59, li60, li62, li63, li64, li81, li97, li99, li100, li122, li128, li152, li188, li189, li190, li191, li192, li255, li299, li380, li400, li488, li888, li999, li1000, li5368, li9999, neg1, b2i_z, b2i_o, b2i_e, b2i_t, b2i_f, oI_s, nI_on, on_nI, on_on, le_on, on_lt, on_le, lt_on, nI_leI, nI_ltI, nI_eq, nI_add, nI_mul, nI_subN, nI_subon, nI_addon, sh1, xorN, ite_true, ite_false, if_true, if_false, not_true_eq_false, not_false_eq_true, reduceCtorEq, G_oil hB W R, G_own hB W R, G_dark hB W R, G_way hB W R, G_pl hB W R, G_tp hB W R, G_hd hB W R, G_lt hB W R, R.n, R.k, R.hour, R.night, R.fog, R.mist, R.texts, R.seed, R.burn, e_isBurning W R, e_hasBit, e_bit, hbE, e_likesFor hB W R, e_hasWay hB W R, e_far hB W R, far_on, own_on W, hd_on W, own_is W, hd_is W]
  have hfin : ∀ (a b : Int32), a = v.facts w p likes taper 7 → b = v.facts w p likes taper 8 → (∀ i, i < 9 → st (st (st (st (st (st (st (st (st σ (C + 10) 1 (nI w)) (C + 10) 0 (nI p)) (C + 10) 2 (nI (v.oil p))) (C + 10) 3 (nI (v.dark p))) (C + 10) 4 (nI taper)) (C + 10) 5 (nI likes)) (C + 10) 6 (nI v.hour)) (C + 10) 7 a) (C + 10) 8 b (C + 10) i = v.facts w p likes taper i) ∧ ∀ c, c ≠ C + 10 → st (st (st (st (st (st (st (st (st σ (C + 10) 1 (nI w)) (C + 10) 0 (nI p)) (C + 10) 2 (nI (v.oil p))) (C + 10) 3 (nI (v.dark p))) (C + 10) 4 (nI taper)) (C + 10) 5 (nI likes)) (C + 10) 6 (nI v.hour)) (C + 10) 7 a) (C + 10) 8 b c = σ c := by
    intro a b ha hb
    refine ⟨fun i hi => ?_, fun c hc => ?_⟩
    · simp only [st_s, upd]
      have : i = 0 ∨ i = 1 ∨ i = 2 ∨ i = 3 ∨ i = 4 ∨ i = 5 ∨ i = 6 ∨ i = 7 ∨ i = 8 := by omega
      rcases this with rfl | rfl | rfl | rfl | rfl | rfl | rfl | rfl | rfl
      · rfl
      · rfl
      · rfl
      · rfl
      · rfl
      · rfl
      · rfl
      · exact ha
      · exact hb
    · rw [st_n hc, st_n hc, st_n hc, st_n hc, st_n hc, st_n hc, st_n hc, st_n hc, st_n hc]
  have f7 : ∀ b : Bool, decide (v.own p ≠ none) = b → b2i b = v.facts w p likes taper 7 := fun b h => by rw [← h]; rfl
  have f8 : b2i v.mist = v.facts w p likes taper 8 := rfl
  by_cases c1 : v.own p = none
  · have h7 := f7 false (by simp [c1])
    cases hm : v.mist with
    | true => rw [hm] at f8; simp -implicitDefEqProofs (disch := omega) only [c1, es, st_n, hm, bd_s, bd2_s, bdx_l, bdx_r, bdx2_l, bdx2_r, pu_s, gb0, gb1, gb_b, li0, li1, li2, li3, li4, li5, li6, li7, li8, li9, li10, li11, li12, li13, li14, li15, li16, li17, li18, li19, li20, li21, li22, li23, li24, li25, li26, li27, li28, li29, li30, li31, li32, li39, li40, li41, li43, li47, li48, li57, li59, li60, li62, li63, li64, li81, li97, li99, li100, li122, li128, li152, li188, li189, li190, li191, li192, li255, li299, li380, li400, li488, li888, li999, li1000, li5368, li9999, neg1, b2i_z, b2i_o, b2i_e, b2i_t, b2i_f, oI_s, nI_on, on_nI, on_on, le_on, on_lt, on_le, lt_on, nI_leI, nI_ltI, nI_eq, nI_add, nI_mul, nI_subN, nI_subon, nI_addon, sh1, xorN, ite_true, ite_false, if_true, if_false, not_true_eq_false, not_false_eq_true, reduceCtorEq, G_oil hB W R, G_own hB W R, G_dark hB W R, G_way hB W R, G_pl hB W R, G_tp hB W R, G_hd hB W R, G_lt hB W R, R.n, R.k, R.hour, R.night, R.fog, R.mist, R.texts, R.seed, R.burn, e_isBurning W R, e_hasBit, e_bit, hbE, e_likesFor hB W R, e_hasWay hB W R, e_far hB W R, far_on, own_on W, hd_on W, own_is W, hd_is W]; exact ⟨_, rfl, hfin _ _ h7 f8⟩
    | false => rw [hm] at f8; simp -implicitDefEqProofs (disch := omega) only [c1, es, st_n, hm, bd_s, bd2_s, bdx_l, bdx_r, bdx2_l, bdx2_r, pu_s, gb0, gb1, gb_b, li0, li1, li2, li3, li4, li5, li6, li7, li8, li9, li10, li11, li12, li13, li14, li15, li16, li17, li18, li19, li20, li21, li22, li23, li24, li25, li26, li27, li28, li29, li30, li31, li32, li39, li40, li41, li43, li47, li48, li57, li59, li60, li62, li63, li64, li81, li97, li99, li100, li122, li128, li152, li188, li189, li190, li191, li192, li255, li299, li380, li400, li488, li888, li999, li1000, li5368, li9999, neg1, b2i_z, b2i_o, b2i_e, b2i_t, b2i_f, oI_s, nI_on, on_nI, on_on, le_on, on_lt, on_le, lt_on, nI_leI, nI_ltI, nI_eq, nI_add, nI_mul, nI_subN, nI_subon, nI_addon, sh1, xorN, ite_true, ite_false, if_true, if_false, not_true_eq_false, not_false_eq_true, reduceCtorEq, G_oil hB W R, G_own hB W R, G_dark hB W R, G_way hB W R, G_pl hB W R, G_tp hB W R, G_hd hB W R, G_lt hB W R, R.n, R.k, R.hour, R.night, R.fog, R.mist, R.texts, R.seed, R.burn, e_isBurning W R, e_hasBit, e_bit, hbE, e_likesFor hB W R, e_hasWay hB W R, e_far hB W R, far_on, own_on W, hd_on W, own_is W, hd_is W]; exact ⟨_, rfl, hfin _ _ h7 f8⟩
  · have h7 := f7 true (by simp [c1])
    cases hm : v.mist with
    | true => rw [hm] at f8; simp -implicitDefEqProofs (disch := omega) only [c1, es, st_n, hm, bd_s, bd2_s, bdx_l, bdx_r, bdx2_l, bdx2_r, pu_s, gb0, gb1, gb_b, li0, li1, li2, li3, li4, li5, li6, li7, li8, li9, li10, li11, li12, li13, li14, li15, li16, li17, li18, li19, li20, li21, li22, li23, li24, li25, li26, li27, li28, li29, li30, li31, li32, li39, li40, li41, li43, li47, li48, li57, li59, li60, li62, li63, li64, li81, li97, li99, li100, li122, li128, li152, li188, li189, li190, li191, li192, li255, li299, li380, li400, li488, li888, li999, li1000, li5368, li9999, neg1, b2i_z, b2i_o, b2i_e, b2i_t, b2i_f, oI_s, nI_on, on_nI, on_on, le_on, on_lt, on_le, lt_on, nI_leI, nI_ltI, nI_eq, nI_add, nI_mul, nI_subN, nI_subon, nI_addon, sh1, xorN, ite_true, ite_false, if_true, if_false, not_true_eq_false, not_false_eq_true, reduceCtorEq, G_oil hB W R, G_own hB W R, G_dark hB W R, G_way hB W R, G_pl hB W R, G_tp hB W R, G_hd hB W R, G_lt hB W R, R.n, R.k, R.hour, R.night, R.fog, R.mist, R.texts, R.seed, R.burn, e_isBurning W R, e_hasBit, e_bit, hbE, e_likesFor hB W R, e_hasWay hB W R, e_far hB W R, far_on, own_on W, hd_on W, own_is W, hd_is W]; exact ⟨_, rfl, hfin _ _ h7 f8⟩
    | false => rw [hm] at f8; simp -implicitDefEqProofs (disch := omega) only [c1, es, st_n, hm, bd_s, bd2_s, bdx_l, bdx_r, bdx2_l, bdx2_r, pu_s, gb0, gb1, gb_b, li0, li1, li2, li3, li4, li5, li6, li7, li8, li9, li10, li11, li12, li13, li14, li15, li16, li17, li18, li19, li20, li21, li22, li23, li24, li25, li26, li27, li28, li29, li30, li31, li32, li39, li40, li41, li43, li47, li48, li57, li59, li60, li62, li63, li64, li81, li97, li99, li100, li122, li128, li152, li188, li189, li190, li191, li192, li255, li299, li380, li400, li488, li888, li999, li1000, li5368, li9999, neg1, b2i_z, b2i_o, b2i_e, b2i_t, b2i_f, oI_s, nI_on, on_nI, on_on, le_on, on_lt, on_le, lt_on, nI_leI, nI_ltI, nI_eq, nI_add, nI_mul, nI_subN, nI_subon, nI_addon, sh1, xorN, ite_true, ite_false, if_true, if_false, not_true_eq_false, not_false_eq_true, reduceCtorEq, G_oil hB W R, G_own hB W R, G_dark hB W R, G_way hB W R, G_pl hB W R, G_tp hB W R, G_hd hB W R, G_lt hB W R, R.n, R.k, R.hour, R.night, R.fog, R.mist, R.texts, R.seed, R.burn, e_isBurning W R, e_hasBit, e_bit, hbE, e_likesFor hB W R, e_hasWay hB W R, e_far hB W R, far_on, own_on W, hd_on W, own_is W, hd_is W]; exact ⟨_, rfl, hfin _ _ h7 f8⟩
def topI : Nat → Int32
  | 0 => oI none
  | d + 1 => nI d
theorem topI_up {d : Nat} : topI d + 1 = nI d := by
  cases d with
  | zero => rfl
  | succ d => exact (nI_succ d).symm
theorem topI_dn {d : Nat} : topI (d + 1) + -1 = topI d := by
  cases d with
  | zero => rfl
  | succ d => exact nI_dec d
def StkR (σ : Mem) (C : Nat) (s : List Int32) : Prop := ∀ m x, s[m]? = some x → σ (C + 12) (s.length - 1 - m) = x
theorem StkR.push {s : List Int32} {x : Int32} (h : StkR σ C s) : StkR (st σ (C + 12) s.length x) C (x :: s) := by
  intro m y hy
  cases m with
  | zero =>
    rw [List.getElem?_cons_zero] at hy
    cases hy
    rw [List.length_cons, show s.length + 1 - 1 - 0 = s.length by omega, st_at]
  | succ m =>
    rw [List.getElem?_cons_succ] at hy
    have := (List.getElem?_eq_some_iff.mp hy).1
    rw [List.length_cons, st_at' (by omega), show s.length + 1 - 1 - (m + 1) = s.length - 1 - m by omega]
    exact h m y hy
theorem StkR.tail {s : List Int32} {x : Int32} (h : StkR σ C (x :: s)) : StkR σ C s := by
  intro m y hy
  have := h (m + 1) y (by rw [List.getElem?_cons_succ]; exact hy)
  rw [List.length_cons, show s.length + 1 - 1 - (m + 1) = s.length - 1 - m by omega] at this
  exact this
theorem StkR.head {s : List Int32} {x : Int32} (h : StkR σ C (x :: s)) : σ (C + 12) s.length = x := by
  have := h 0 x rfl
  rw [List.length_cons, show s.length + 1 - 1 - 0 = s.length by omega] at this
  exact this
theorem e_joined {c x y : Int32} : X3_joined σ c x y = some (joinC c x y) := by
  unfold X3_joined joinC
  split
  · rfl
  · split
    · rfl
    · split
      · split <;> rfl
      · split
        · split <;> rfl
        · split <;> rfl
def yes (s : List Int32) : Bool := match s with
  | [] => true
  | x :: _ => decide (x ≠ 0)
theorem e_holds_l (hC : kd C = kd 72) {F : Nat → Int32} {i : Nat} {l : Int32 × Bool × List Int32} : ∀ (cs : List Int32) (k fuel : Nat) (s : List Int32) (σ : Mem), LC σ C L → L[i]? = some l → k + cs.length = l.2.2.length → (∀ m c, cs[m]? = some c → l.2.2[k + m]? = some c) → (∃ d', depC cs s.length = some d') → s.length ≤ 60 → cs.length < fuel → StkR σ C s → (∀ f, f < 9 → σ (C + 10) f = F f) → ∃ σ', X3_holds_21 fuel C (nI i) (topI s.length) (nI (Lw.off L i + k)) σ = some (b2i (yes (runC F cs s)), σ') ∧ ∀ c, c ≠ C + 12 → σ' c = σ c := by
  obtain ⟨l2, l4, l6, l8, l10, l12⟩ := kd_law hC
  intro cs
  induction cs with
  | nil =>
    intro k fuel s σ K hl hk hcs hd h60 hf hS hF
    obtain ⟨fuel, rfl⟩ : ∃ z, fuel = z + 1 := ⟨fuel - 1, by omega⟩
    have hi := (List.getElem?_eq_some_iff.mp hl).1
    obtain ⟨-, k12, -, k400, kl⟩ := K
    obtain ⟨-, -, ke, -, -⟩ := kl i l hl
    have hoff := off_s hl
    have hol : Lw.off L (i + 1) ≤ 400 := Nat.le_trans (off_le hi) k400
    rw [X3_holds_21, e_get (by show i < ln (C + 6); omega) (by show ln (C + 6) < _; omega), bd_s, show σ (C + 5 + 1) i = nI (Lw.off L (i + 1)) from ke, if_pos (nI_le (by simp only [List.length_nil] at hk; omega) (by omega))]
    cases s with
    | nil =>
      rw [show topI [].length = (oI none) from rfl, if_pos (by decide)]
      exact ⟨σ, rfl, fun c _ => rfl⟩
    | cons x s =>
      have hlen : s.length < 60 := by simp only [List.length_cons] at h60; omega
      rw [show topI (x :: s).length = nI s.length from rfl, if_neg (nI_pos (by omega)), e_get (by show _ < ln (C + 12); omega) (by show ln (C + 12) < _; omega), bd_s, show σ (C + 11 + 1) s.length = x from hS.head]
      by_cases hx : x = 0
      · rw [if_pos hx]
        refine ⟨σ, ?_, fun c _ => rfl⟩
        rw [show yes (runC F [] (x :: s)) = false from by show decide (x ≠ 0) = false; simp [hx]]
        rfl
      · rw [if_neg hx]
        refine ⟨σ, ?_, fun c _ => rfl⟩
        rw [show yes (runC F [] (x :: s)) = true from by show decide (x ≠ 0) = true; simp [hx]]
        rfl
  | cons c cs ih =>
    intro k fuel s σ K hl hk hcs hd h60 hf hS hF
    obtain ⟨fuel, rfl⟩ : ∃ z, fuel = z + 1 := ⟨fuel - 1, by omega⟩
    have hi := (List.getElem?_eq_some_iff.mp hl).1
    have K0 := K
    obtain ⟨-, k12, -, k400, kl⟩ := K
    obtain ⟨-, -, ke, -, kc⟩ := kl i l hl
    have hoff := off_s hl
    have hol : Lw.off L (i + 1) ≤ 400 := Nat.le_trans (off_le hi) k400
    simp only [List.length_cons] at hk hf
    have hc : σ (C + 7 + 1) (Lw.off L i + k) = c := kc k c (by have := hcs 0 c rfl; simpa using this)
    rw [X3_holds_21, e_get (by show i < ln (C + 6); omega) (by show ln (C + 6) < _; omega), bd_s, show σ (C + 5 + 1) i = nI (Lw.off L (i + 1)) from ke, if_neg (nI_ge (by omega) (by omega)), e_get (by show _ < ln (C + 8); omega) (by show ln (C + 8) < _; omega), bd_s, hc]
    have hcs2 : ∀ m c2, cs[m]? = some c2 → l.2.2[k + 1 + m]? = some c2 := fun m c2 hm => by
      have := hcs (m + 1) c2 (by rw [List.getElem?_cons_succ]; exact hm)
      rwa [show k + (m + 1) = k + 1 + m by omega] at this
    have eg : ∀ (τ : Mem) (d : Nat), d < 64 → X6_get τ (C + 11) (nI d) = some (τ (C + 12) d) := fun τ d h => e_get (by show d < ln (C + 12); omega) (by show ln (C + 12) < _; omega)
    have es : ∀ (τ : Mem) (d : Nat) (x : Int32), d < 64 → X6_set (C + 11) (nI d) x τ = some (st τ (C + 12) d x) := fun τ d x h => e_set (by show d < ln (C + 12); omega) (by show ln (C + 12) < _; omega)
    have kst : ∀ (τ : Mem), LC τ C L → ∀ d x, LC (st τ (C + 12) d x) C L := fun τ q d x => q.move fun c h1 h2 => by rw [st_n (by omega)]
    obtain ⟨d', hd'⟩ := hd
    unfold depC at hd'
    have hnx : nI (Lw.off L i + k) + 1 = nI (Lw.off L i + (k + 1)) := (nI_succ _).symm
    by_cases c1 : c < 1000
    · rw [if_pos c1] at hd' ⊢
      by_cases c2 : c < 0
      · rw [if_pos c2] at hd' ⊢
        by_cases c3 : c = -4
        · rw [if_pos c3] at hd' ⊢
          cases s with
          | nil => rw [if_neg (by simp)] at hd'; cases hd'
          | cons x s =>
            rw [if_pos (by simp)] at hd'
            have hlen : s.length < 60 := by simp only [List.length_cons] at h60; omega
            rw [show topI (x :: s).length = nI s.length from rfl, eg _ _ (by omega), bd_s, hS.head, es _ _ _ (by omega), bd_s, hnx]
            obtain ⟨σ', q1, q2⟩ := ih (k + 1) fuel ((1 - x) :: s) _ (kst σ K0 s.length (1 - x)) hl (by omega) hcs2 ⟨d', hd'⟩ h60 (by omega) hS.tail.push (fun f hf => by rw [st_n (by omega)]; exact hF f hf)
            refine ⟨σ', ?_, fun c hc => by rw [q2 c hc, st_n hc]⟩
            rw [show runC F (c :: cs) (x :: s) = runC F cs ((1 - x) :: s) from by rw [runC, stepC, if_pos c1, if_pos c2, if_pos c3]]
            exact q1
        · rw [if_neg c3] at hd' ⊢
          match s, hd', hS, h60 with
          | [], hd', _, _ => rw [if_neg (by simp)] at hd'; cases hd'
          | [x], hd', _, _ => rw [if_neg (by simp)] at hd'; cases hd'
          | y :: x :: s, hd', hS, h60 =>
            rw [if_pos (by simp)] at hd'
            have hlen : s.length ≤ 58 := by simp only [List.length_cons] at h60; omega
            rw [show topI (y :: x :: s).length = nI (s.length + 1) from rfl, nI_dec, eg _ _ (by omega), bd_s, hS.tail.head, nI_1, eg _ _ (by omega), bd_s, show σ (C + 12) (s.length + 1) = y from hS.head, e_joined, bd_s, es _ _ _ (by omega), bd_s, hnx]
            obtain ⟨σ', q1, q2⟩ := ih (k + 1) fuel (joinC c x y :: s) _ (kst σ K0 s.length (joinC c x y)) hl (by omega) hcs2 ⟨d', hd'⟩ (by simp only [List.length_cons]; omega) (by omega) hS.tail.tail.push (fun f hf => by rw [st_n (by omega)]; exact hF f hf)
            refine ⟨σ', ?_, fun c hc => by rw [q2 c hc, st_n hc]⟩
            rw [show runC F (c :: cs) (y :: x :: s) = runC F cs (joinC c x y :: s) from by rw [runC, stepC, if_pos c1, if_pos c2, if_neg c3]]
            exact q1
      · rw [if_neg c2] at hd' ⊢
        by_cases c4 : s.length < 60
        · rw [if_pos c4] at hd'
          rw [topI_up, es _ _ _ (by omega), bd_s, hnx]
          obtain ⟨σ', q1, q2⟩ := ih (k + 1) fuel (c :: s) _ (kst σ K0 s.length c) hl (by omega) hcs2 ⟨d', hd'⟩ (by simp only [List.length_cons]; omega) (by omega) hS.push (fun f hf => by rw [st_n (by omega)]; exact hF f hf)
          refine ⟨σ', ?_, fun c hc => by rw [q2 c hc, st_n hc]⟩
          rw [show runC F (c :: cs) s = runC F cs (c :: s) from by rw [runC]; unfold stepC; rw [if_pos c1, if_neg c2]]
          exact q1
        · rw [if_neg c4] at hd'; cases hd'
    · rw [if_neg c1] at hd' ⊢
      by_cases c4 : c ≤ 1008 ∧ s.length < 60
      · rw [if_pos c4] at hd'
        obtain ⟨n, n1, rfl⟩ := nI_of2 (M := 1008) (n := 1008) (by decide) (fun z => c1 (Int32.lt_trans z (by decide))) c4.1
        have hn : 1000 ≤ n := by
          apply Classical.byContradiction
          intro z
          exact c1 (nI_lt (b := 1000) (by omega) (by omega))
        rw [show nI n - 1000 = nI (n - 1000) from nI_subN (b := 1000) hn, e_get (by show _ < ln (C + 10); omega) (by show ln (C + 10) < _; omega), bd_s, show σ (C + 9 + 1) (n - 1000) = F (n - 1000) from hF _ (by omega), topI_up, es _ _ _ (by omega), bd_s, hnx]
        obtain ⟨σ', q1, q2⟩ := ih (k + 1) fuel (F (n - 1000) :: s) _ (kst σ K0 s.length _) hl (by omega) hcs2 ⟨d', hd'⟩ (by simp only [List.length_cons]; omega) (by omega) hS.push (fun f hf => by rw [st_n (by omega)]; exact hF f hf)
        refine ⟨σ', ?_, fun c hc => by rw [q2 c hc, st_n hc]⟩
        rw [show runC F (nI n :: cs) s = runC F cs (F (n - 1000) :: s) from by rw [runC]; unfold stepC; rw [if_neg c1, nI_clamp (by omega)]]
        exact q1
      · rw [if_neg c4] at hd'; cases hd'
theorem e_holds (hC : kd C = kd 72) (K : LC σ C L) {F : Nat → Int32} {i : Nat} {l : Int32 × Bool × List Int32} (hl : L[i]? = some l) (hF : ∀ f, f < 9 → σ (C + 10) f = F f) : ∃ σ', X3_holds C (nI i) σ = some (b2i (holdsC F l.2.2), σ') ∧ ∀ c, c ≠ C + 12 → σ' c = σ c := by
  obtain ⟨l2, l4, l6, l8, l10, l12⟩ := kd_law hC
  have hi := (List.getElem?_eq_some_iff.mp hl).1
  have k12 := K.2.1
  have k400 := K.2.2.2.1
  obtain ⟨-, -, -, kd, -⟩ := K.2.2.2.2 i l hl
  have hlen : l.2.2.length ≤ 400 := by have := off_s hl; have := off_le hi; omega
  have key := e_holds_l hC (F := F) l.2.2 0 FU [] σ K hl (by omega) (fun m c h => by rw [Nat.zero_add]; exact h) kd (by simp) (FUb (by omega)) (fun m x h => by cases h) hF
  rw [Nat.add_zero] at key
  have hy : yes (runC F l.2.2 []) = holdsC F l.2.2 := rfl
  rw [hy] at key
  unfold X3_holds X3_holds_20
  by_cases h0 : i = 0
  · subst h0
    rw [if_pos (by decide)]
    have : Lw.off L 0 = 0 := by cases L <;> rfl
    rw [this] at key
    exact key
  · rw [if_neg (nI_nle (by omega) (by omega)), show nI i - 1 = nI (i - 1) from nI_subN (b := 1) (by omega), e_get (by show _ < ln (C + 6); omega) (by show ln (C + 6) < _; omega), bd_s]
    have hl2 : L[i - 1]? = some (L[i - 1]'(by omega)) := List.getElem?_eq_getElem _
    obtain ⟨-, -, ke, -⟩ := K.2.2.2.2 (i - 1) _ hl2
    rw [show σ (C + 5 + 1) (i - 1) = nI (Lw.off L i) from by rw [show C + 5 + 1 = C + 6 from rfl, ke, show i - 1 + 1 = i by omega]]
    exact key
theorem e_will_l (hC : kd C = kd 72) {F : Nat → Int32} : ∀ (m i fuel : Nat) (a : Int32) (σ : Mem), LC σ C L → i + m = L.length → m < fuel → (∀ f, f < 9 → σ (C + 10) f = F f) → ∃ σ', X3_willNow_16 fuel C a (nI i) σ = some (Lw.will F (L.drop i) a, σ') ∧ ∀ c, c ≠ C + 12 → σ' c = σ c := by
  obtain ⟨l2, l4, l6, l8, l10, l12⟩ := kd_law hC
  intro m
  induction m with
  | zero =>
    intro i fuel a σ K hi hf hF
    obtain ⟨fuel, rfl⟩ : ∃ z, fuel = z + 1 := ⟨fuel - 1, by omega⟩
    have k12 := K.2.1
    refine ⟨σ, ?_, fun c _ => rfl⟩
    rw [X3_willNow_16, List.drop_of_length_le (by omega)]
    rcases K.1 with h | h
    · rw [h, if_pos (nI_le (by omega) (by omega))]; rfl
    · rw [h.1, if_pos ((on_le (by omega)).mpr trivial)]; rfl
  | succ m ih =>
    intro i fuel a σ K hi hf hF
    obtain ⟨fuel, rfl⟩ : ∃ z, fuel = z + 1 := ⟨fuel - 1, by omega⟩
    have k12 := K.2.1
    have hil : i < L.length := by omega
    have hl : L[i]? = some (L[i]'hil) := List.getElem?_eq_getElem _
    obtain ⟨kw, kp, ke, -, -⟩ := K.2.2.2.2 i _ hl
    have hlen : σ C 0 = nI L.length := by
      rcases K.1 with h | h
      · exact h
      · rw [h.2] at hil; cases hil
    rw [X3_willNow_16, hlen, if_neg (nI_ge (by omega) (by omega)), e_get (by show _ < ln (C + 2); omega) (by show ln (C + 2) < _; omega), bd_s, show σ (C + 1 + 1) i = (L[i]'hil).1 from kw, List.drop_eq_getElem_cons hil]
    show ∃ σ', _ = some (Lw.will F (L.drop (i + 1)) (if holdsC F (L[i]'hil).2.2 = true then a + (L[i]'hil).1 else a), σ') ∧ _
    have hnx : nI i + 1 = nI (i + 1) := nI_1 i
    rw [hnx]
    by_cases w0 : (L[i]'hil).1 = 0
    · rw [if_pos w0]
      obtain ⟨σ', q1, q2⟩ := ih (i + 1) fuel a σ K (by omega) (by omega) hF
      refine ⟨σ', ?_, q2⟩
      rw [q1, w0, show a + 0 = a from Int32.add_zero a]
      split <;> rfl
    · rw [if_neg w0]
      obtain ⟨τ, t1, t2⟩ := e_holds hC K hl hF
      rw [t1, bd2_s]
      have Kτ : LC τ C L := K.move fun c h1 h2 => t2 c (by omega)
      have Fτ : ∀ f, f < 9 → τ (C + 10) f = F f := fun f hf => by rw [t2 _ (by omega)]; exact hF f hf
      cases hh : holdsC F (L[i]'hil).2.2 with
      | false =>
        rw [if_pos (show b2i false = 0 from rfl), if_neg (by decide)]
        obtain ⟨σ', q1, q2⟩ := ih (i + 1) fuel a τ Kτ (by omega) (by omega) Fτ
        exact ⟨σ', q1, fun c hc => by rw [q2 c hc, t2 c hc]⟩
      | true =>
        rw [if_neg (show ¬ b2i true = 0 by decide), if_pos rfl, e_get (by show _ < ln (C + 2); omega) (by show ln (C + 2) < _; omega), bd_s, show τ (C + 1 + 1) i = (L[i]'hil).1 from by rw [t2 _ (by omega)]; exact kw]
        obtain ⟨σ', q1, q2⟩ := ih (i + 1) fuel (a + (L[i]'hil).1) τ Kτ (by omega) (by omega) Fτ
        exact ⟨σ', q1, fun c hc => by rw [q2 c hc, t2 c hc]⟩
theorem e_willNow (hC : kd C = kd 72) (K : LC σ C L) {F : Nat → Int32} (hF : ∀ f, f < 9 → σ (C + 10) f = F f) : ∃ σ', X3_willNow C σ = some (Lw.will F L (F 5), σ') ∧ ∀ c, c ≠ C + 12 → σ' c = σ c := by
  obtain ⟨l2, l4, l6, l8, l10, l12⟩ := kd_law hC
  have k12 := K.2.1
  unfold X3_willNow
  rw [show tFa (15 : Int32) = some (nI 5) from tFa_s.2.2.2.2.2.1, bd_s, e_get (by show _ < ln (C + 10); omega) (by show ln (C + 10) < _; omega), bd_s, show σ (C + 9 + 1) 5 = F 5 from hF 5 (by omega)]
  exact e_will_l hC L.length 0 FU (F 5) σ K (by omega) (FUb (by omega)) hF
theorem e_pass_l (hC : kd C = kd 72) {F : Nat → Int32} : ∀ (m i fuel : Nat) (σ : Mem), LC σ C L → i + m = L.length → m < fuel → (∀ f, f < 9 → σ (C + 10) f = F f) → ∃ σ', X3_passesNow_2 fuel C (nI i) σ = some (b2i (Lw.pass F (L.drop i)), σ') ∧ ∀ c, c ≠ C + 12 → σ' c = σ c := by
  obtain ⟨l2, l4, l6, l8, l10, l12⟩ := kd_law hC
  intro m
  induction m with
  | zero =>
    intro i fuel σ K hi hf hF
    obtain ⟨fuel, rfl⟩ : ∃ z, fuel = z + 1 := ⟨fuel - 1, by omega⟩
    have k12 := K.2.1
    refine ⟨σ, ?_, fun c _ => rfl⟩
    rw [X3_passesNow_2, List.drop_of_length_le (by omega)]
    rcases K.1 with h | h
    · rw [h, if_pos (nI_le (by omega) (by omega))]; rfl
    · rw [h.1, if_pos ((on_le (by omega)).mpr trivial)]; rfl
  | succ m ih =>
    intro i fuel σ K hi hf hF
    obtain ⟨fuel, rfl⟩ : ∃ z, fuel = z + 1 := ⟨fuel - 1, by omega⟩
    have k12 := K.2.1
    have hil : i < L.length := by omega
    have hl : L[i]? = some (L[i]'hil) := List.getElem?_eq_getElem _
    obtain ⟨kw, kp, ke, -, -⟩ := K.2.2.2.2 i _ hl
    have hlen : σ C 0 = nI L.length := by
      rcases K.1 with h | h
      · exact h
      · rw [h.2] at hil; cases hil
    rw [X3_passesNow_2, hlen, if_neg (nI_ge (by omega) (by omega)), e_get (by show _ < ln (C + 4); omega) (by show ln (C + 4) < _; omega), bd_s, show σ (C + 3 + 1) i = b2i (L[i]'hil).2.1 from kp, List.drop_eq_getElem_cons hil]
    show ∃ σ', _ = some (b2i (((L[i]'hil).2.1 && holdsC F (L[i]'hil).2.2) || Lw.pass F (L.drop (i + 1))), σ') ∧ _
    have hnx : nI i + 1 = nI (i + 1) := nI_1 i
    rw [hnx]
    cases hp : (L[i]'hil).2.1 with
    | false =>
      rw [if_pos (show b2i false = 0 from rfl), Bool.false_and, Bool.false_or]
      exact ih (i + 1) fuel σ K (by omega) (by omega) hF
    | true =>
      rw [if_neg (show ¬ b2i true = 0 by decide), Bool.true_and]
      obtain ⟨τ, t1, t2⟩ := e_holds hC K hl hF
      rw [t1, bd2_s]
      have Kτ : LC τ C L := K.move fun c h1 h2 => t2 c (by omega)
      have Fτ : ∀ f, f < 9 → τ (C + 10) f = F f := fun f hf => by rw [t2 _ (by omega)]; exact hF f hf
      cases hh : holdsC F (L[i]'hil).2.2 with
      | false =>
        rw [if_pos (show b2i false = 0 from rfl), Bool.false_or]
        obtain ⟨σ', q1, q2⟩ := ih (i + 1) fuel τ Kτ (by omega) (by omega) Fτ
        exact ⟨σ', q1, fun c hc => by rw [q2 c hc, t2 c hc]⟩
      | true =>
        rw [if_neg (show ¬ b2i true = 0 by decide), Bool.true_or]
        exact ⟨τ, rfl, t2⟩
theorem e_passesNow (hC : kd C = kd 72) (K : LC σ C L) {F : Nat → Int32} (hF : ∀ f, f < 9 → σ (C + 10) f = F f) : ∃ σ', X3_passesNow C σ = some (b2i (Lw.pass F L), σ') ∧ ∀ c, c ≠ C + 12 → σ' c = σ c := by
  have k12 := K.2.1
  exact e_pass_l hC L.length 0 FU σ K (by omega) (FUb (by omega)) hF
theorem e_letsLight (hB : kd B = 2) (hC : kd C = kd 72) (hs : B + 21 ≤ C ∨ C + 13 ≤ B) (W : WF v) (R : SC σ B v e) (K : LC σ C L) {w p likes taper : Nat} (hw : w < v.k) (hp : p < v.n) (ht : taper < 2 ^ 31) : ∃ σ', X3_letsLight C B (nI w) (nI p) (nI likes) (nI taper) σ = some (b2i (v.lits L w p likes taper), σ') ∧ ∀ c, c ≠ C + 10 → c ≠ C + 12 → σ' c = σ c := by
  have h9 := W.n9
  have h6 := W.k6
  have ho := W.oil p hp
  unfold X3_letsLight View.lits
  by_cases c1 : taper = 0
  · simp -implicitDefEqProofs (disch := omega) only [c1, Nat.le_refl, bd_s, bd2_s, bdx_l, bdx_r, bdx2_l, bdx2_r, pu_s, gb0, gb1, gb_b, li0, li1, li2, li3, li4, li5, li6, li7, li8, li9, li10, li11, li12, li13, li14, li15, li16, li17, li18, li19, li20, li21, li22, li23, li24, li25, li26, li27, li28, li29, li30, li31, li32, li39, li40, li41, li43, li47, li48, li57, li59, li60, li62, li63, li64, li81, li97, li99, li100, li122, li128, li152, li188, li189, li190, li191, li192, li255, li299, li380, li400, li488, li888, li999, li1000, li5368, li9999, neg1, b2i_z, b2i_o, b2i_e, b2i_t, b2i_f, oI_s, nI_on, on_nI, on_on, le_on, on_lt, on_le, lt_on, nI_leI, nI_ltI, nI_eq, nI_add, nI_mul, nI_subN, nI_subon, nI_addon, sh1, xorN, ite_true, ite_false, if_true, if_false, not_true_eq_false, not_false_eq_true, reduceCtorEq, G_oil hB W R, G_own hB W R, G_dark hB W R, G_way hB W R, G_pl hB W R, G_tp hB W R, G_hd hB W R, G_lt hB W R, R.n, R.k, R.hour, R.night, R.fog, R.mist, R.texts, R.seed, R.burn, e_isBurning W R, e_hasBit, e_bit, hbE, e_likesFor hB W R, e_hasWay hB W R, e_far hB W R, far_on, own_on W, hd_on W, own_is W, hd_is W]
    exact ⟨σ, rfl, fun c _ _ => rfl⟩
  · by_cases c2 : v.burn p = true
    · simp -implicitDefEqProofs (disch := omega) only [show ¬ taper ≤ 0 by omega, c1, c2, bd_s, bd2_s, bdx_l, bdx_r, bdx2_l, bdx2_r, pu_s, gb0, gb1, gb_b, li0, li1, li2, li3, li4, li5, li6, li7, li8, li9, li10, li11, li12, li13, li14, li15, li16, li17, li18, li19, li20, li21, li22, li23, li24, li25, li26, li27, li28, li29, li30, li31, li32, li39, li40, li41, li43, li47, li48, li57, li59, li60, li62, li63, li64, li81, li97, li99, li100, li122, li128, li152, li188, li189, li190, li191, li192, li255, li299, li380, li400, li488, li888, li999, li1000, li5368, li9999, neg1, b2i_z, b2i_o, b2i_e, b2i_t, b2i_f, oI_s, nI_on, on_nI, on_on, le_on, on_lt, on_le, lt_on, nI_leI, nI_ltI, nI_eq, nI_add, nI_mul, nI_subN, nI_subon, nI_addon, sh1, xorN, ite_true, ite_false, if_true, if_false, not_true_eq_false, not_false_eq_true, reduceCtorEq, G_oil hB W R, G_own hB W R, G_dark hB W R, G_way hB W R, G_pl hB W R, G_tp hB W R, G_hd hB W R, G_lt hB W R, R.n, R.k, R.hour, R.night, R.fog, R.mist, R.texts, R.seed, R.burn, e_isBurning W R, e_hasBit, e_bit, hbE, e_likesFor hB W R, e_hasWay hB W R, e_far hB W R, far_on, own_on W, hd_on W, own_is W, hd_is W]
      exact ⟨σ, rfl, fun c _ _ => rfl⟩
    · have c2' : v.burn p = false := by simpa using c2
      by_cases c3 : v.oil p = 0
      · simp -implicitDefEqProofs (disch := omega) only [show ¬ taper ≤ 0 by omega, c1, c2', c3, Nat.le_refl, Bool.false_eq_true, bd_s, bd2_s, bdx_l, bdx_r, bdx2_l, bdx2_r, pu_s, gb0, gb1, gb_b, li0, li1, li2, li3, li4, li5, li6, li7, li8, li9, li10, li11, li12, li13, li14, li15, li16, li17, li18, li19, li20, li21, li22, li23, li24, li25, li26, li27, li28, li29, li30, li31, li32, li39, li40, li41, li43, li47, li48, li57, li59, li60, li62, li63, li64, li81, li97, li99, li100, li122, li128, li152, li188, li189, li190, li191, li192, li255, li299, li380, li400, li488, li888, li999, li1000, li5368, li9999, neg1, b2i_z, b2i_o, b2i_e, b2i_t, b2i_f, oI_s, nI_on, on_nI, on_on, le_on, on_lt, on_le, lt_on, nI_leI, nI_ltI, nI_eq, nI_add, nI_mul, nI_subN, nI_subon, nI_addon, sh1, xorN, ite_true, ite_false, if_true, if_false, not_true_eq_false, not_false_eq_true, reduceCtorEq, G_oil hB W R, G_own hB W R, G_dark hB W R, G_way hB W R, G_pl hB W R, G_tp hB W R, G_hd hB W R, G_lt hB W R, R.n, R.k, R.hour, R.night, R.fog, R.mist, R.texts, R.seed, R.burn, e_isBurning W R, e_hasBit, e_bit, hbE, e_likesFor hB W R, e_hasWay hB W R, e_far hB W R, far_on, own_on W, hd_on W, own_is W, hd_is W]
        exact ⟨σ, rfl, fun c _ _ => rfl⟩
      · by_cases c4 : v.own p = some w
        · have e4 : oI (v.own p) = nI w := by rw [c4]; rfl
          simp -implicitDefEqProofs (disch := omega) only [show ¬ taper ≤ 0 by omega, c1, c2', c3, show ¬ v.oil p ≤ 0 by omega, e4, Bool.false_eq_true, bd_s, bd2_s, bdx_l, bdx_r, bdx2_l, bdx2_r, pu_s, gb0, gb1, gb_b, li0, li1, li2, li3, li4, li5, li6, li7, li8, li9, li10, li11, li12, li13, li14, li15, li16, li17, li18, li19, li20, li21, li22, li23, li24, li25, li26, li27, li28, li29, li30, li31, li32, li39, li40, li41, li43, li47, li48, li57, li59, li60, li62, li63, li64, li81, li97, li99, li100, li122, li128, li152, li188, li189, li190, li191, li192, li255, li299, li380, li400, li488, li888, li999, li1000, li5368, li9999, neg1, b2i_z, b2i_o, b2i_e, b2i_t, b2i_f, oI_s, nI_on, on_nI, on_on, le_on, on_lt, on_le, lt_on, nI_leI, nI_ltI, nI_eq, nI_add, nI_mul, nI_subN, nI_subon, nI_addon, sh1, xorN, ite_true, ite_false, if_true, if_false, not_true_eq_false, not_false_eq_true, reduceCtorEq, G_oil hB W R, G_own hB W R, G_dark hB W R, G_way hB W R, G_pl hB W R, G_tp hB W R, G_hd hB W R, G_lt hB W R, R.n, R.k, R.hour, R.night, R.fog, R.mist, R.texts, R.seed, R.burn, e_isBurning W R, e_hasBit, e_bit, hbE, e_likesFor hB W R, e_hasWay hB W R, e_far hB W R, far_on, own_on W, hd_on W, own_is W, hd_is W]
          rw [if_pos c4]
          exact ⟨σ, rfl, fun c _ _ => rfl⟩
        · have e4 : ¬ oI (v.own p) = nI w := fun z => c4 ((own_is W hp (by omega)).mp z)
          simp -implicitDefEqProofs (disch := omega) only [show ¬ taper ≤ 0 by omega, c1, c2', c3, show ¬ v.oil p ≤ 0 by omega, c4, e4, Bool.false_eq_true, bd_s, bd2_s, bdx_l, bdx_r, bdx2_l, bdx2_r, pu_s, gb0, gb1, gb_b, li0, li1, li2, li3, li4, li5, li6, li7, li8, li9, li10, li11, li12, li13, li14, li15, li16, li17, li18, li19, li20, li21, li22, li23, li24, li25, li26, li27, li28, li29, li30, li31, li32, li39, li40, li41, li43, li47, li48, li57, li59, li60, li62, li63, li64, li81, li97, li99, li100, li122, li128, li152, li188, li189, li190, li191, li192, li255, li299, li380, li400, li488, li888, li999, li1000, li5368, li9999, neg1, b2i_z, b2i_o, b2i_e, b2i_t, b2i_f, oI_s, nI_on, on_nI, on_on, le_on, on_lt, on_le, lt_on, nI_leI, nI_ltI, nI_eq, nI_add, nI_mul, nI_subN, nI_subon, nI_addon, sh1, xorN, ite_true, ite_false, if_true, if_false, not_true_eq_false, not_false_eq_true, reduceCtorEq, G_oil hB W R, G_own hB W R, G_dark hB W R, G_way hB W R, G_pl hB W R, G_tp hB W R, G_hd hB W R, G_lt hB W R, R.n, R.k, R.hour, R.night, R.fog, R.mist, R.texts, R.seed, R.burn, e_isBurning W R, e_hasBit, e_bit, hbE, e_likesFor hB W R, e_hasWay hB W R, e_far hB W R, far_on, own_on W, hd_on W, own_is W, hd_is W]
          obtain ⟨σ1, q1, q2, q3⟩ := e_look hB hC hs W R (w := w) (p := p) (likes := likes) (taper := taper) hp
          rw [q1, bd_s]
          have K1 : LC σ1 C L := K.move fun c h1 h2 => q3 c (by omega)
          obtain ⟨σ2, r1, r2⟩ := e_willNow hC K1 q2
          rw [r1, bd2_s, show Lw.will (v.facts w p likes taper) L (v.facts w p likes taper 5) = v.will L w p likes taper from rfl, show nI 5 = (5 : Int32) from rfl]
          by_cases c5 : v.will L w p likes taper < 5
          · rw [if_pos c5, if_pos c5]
            exact ⟨σ2, rfl, fun c h1 h2 => by rw [r2 c h2, q3 c h1]⟩
          · rw [if_neg c5, if_neg c5]
            have K2 : LC σ2 C L := K1.move fun c h1 h2 => r2 c (by omega)
            obtain ⟨σ3, s1, s2⟩ := e_passesNow hC K2 (F := v.facts w p likes taper) (fun f hf => by rw [r2 _ (by omega)]; exact q2 f hf)
            rw [s1, bd2_s, show Lw.pass (v.facts w p likes taper) L = v.pass L w p likes taper from rfl]
            cases hq : v.pass L w p likes taper with
            | true => exact ⟨σ3, rfl, fun c h1 h2 => by rw [s2 c h2, r2 c h2, q3 c h1]⟩
            | false => exact ⟨σ3, rfl, fun c h1 h2 => by rw [s2 c h2, r2 c h2, q3 c h1]⟩
end LAWC

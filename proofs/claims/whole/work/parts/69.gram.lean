/-! the text of the law, without a memory: where it ends or the fault is, and the steps -/
abbrev PR (α : Type) : Type := Nat × Option α
def prB {α β : Type} (r : PR α) (k : α → Nat → PR β) : PR β := match r.2 with
  | some x => k x r.1
  | none => (r.1, none)
def lpPart (b : Nat → Int32) (T p : Nat) : PR (List Int32) :=
  if 10 ≤ term b T p ∧ term b T p ≤ 16 then (nx b T p, some [nI (1000 + (term b T p - 10))])
  else if term b T p = 3 then (nx b T p, some [nI (val b T p)])
  else (p, none)
def lpSumL (b : Nat → Int32) (T : Nat) : Nat → List Int32 → Nat → PR (List Int32)
  | 0, c, q => (q, some c)
  | f + 1, c, q => if term b T q = 7 then prB (lpPart b T (nx b T q)) (fun c2 q2 => lpSumL b T f (c ++ c2 ++ [-1]) q2) else (q, some c)
def lpSum (b : Nat → Int32) (T p : Nat) : PR (List Int32) := prB (lpPart b T p) (fun c q => lpSumL b T 400 c q)
def lpPlain (b : Nat → Int32) (T p : Nat) : PR (List Int32) :=
  if term b T p = 17 then (nx b T p, some [nI 1007])
  else if term b T p = 18 then (nx b T p, some [nI 1008])
  else prB (lpSum b T p) (fun c q =>
    if term b T q = 8 then prB (lpSum b T (nx b T q)) (fun c2 r => (r, some (c ++ c2 ++ [-2])))
    else if term b T q = 9 then prB (lpSum b T (nx b T q)) (fun c2 r => (r, some (c ++ c2 ++ [-3])))
    else (q, none))
def lpEvL (b : Nat → Int32) (T : Nat) (A : Nat → PR (List Int32)) : Nat → List Int32 → Nat → PR (List Int32)
  | 0, c, q => (q, some c)
  | f + 1, c, q => if term b T q = 31 then prB (A (nx b T q)) (fun c2 q2 => lpEvL b T A f (c ++ c2 ++ [-5]) q2) else (q, some c)
def lpEv (b : Nat → Int32) (T : Nat) (A : Nat → PR (List Int32)) (p : Nat) : PR (List Int32) := prB (A p) (fun c q => lpEvL b T A 400 c q)
def lpSoL (b : Nat → Int32) (T : Nat) (A : Nat → PR (List Int32)) : Nat → List Int32 → Nat → PR (List Int32)
  | 0, c, q => (q, some c)
  | f + 1, c, q => if term b T q = 32 then prB (lpEv b T A (nx b T q)) (fun c2 q2 => lpSoL b T A f (c ++ c2 ++ [-6]) q2) else (q, some c)
def lpSo (b : Nat → Int32) (T : Nat) (A : Nat → PR (List Int32)) (p : Nat) : PR (List Int32) := prB (lpEv b T A p) (fun c q => lpSoL b T A 400 c q)
def lpAtom (b : Nat → Int32) (T : Nat) : Nat → Nat → PR (List Int32)
  | 0, p => if term b T p = 30 ∨ term b T p = 5 then (p, none) else lpPlain b T p
  | D + 1, p =>
    if term b T p = 30 then prB (lpAtom b T D (nx b T p)) (fun c q => (q, some (c ++ [-4])))
    else if term b T p = 5 then prB (lpSo b T (lpAtom b T D) (nx b T p)) (fun c q => if term b T q = 6 then (nx b T q, some c) else (q, none))
    else lpPlain b T p
def lpIf (b : Nat → Int32) (T : Nat) (w : Int32) (ps : Bool) (q : Nat) : PR (Int32 × Bool × List Int32) :=
  if term b T q = 29 then prB (lpSo b T (lpAtom b T 6) (nx b T q)) (fun c r => (r, some (w, ps, c))) else (q, some (w, ps, []))
def lpFig (b : Nat → Int32) (T : Nat) (hi : Int32) (p : Nat) : PR Nat := if term b T p = 3 ∧ nI (val b T p) ≤ hi then (nx b T p, some (val b T p)) else (p, none)
def lpLine (b : Nat → Int32) (T p : Nat) : PR (Int32 × Bool × List Int32) :=
  if term b T p = 26 then prB (lpFig b T 20 (nx b T p)) (fun n q => lpIf b T (nI n) false q)
  else if term b T p = 27 then prB (lpFig b T 20 (nx b T p)) (fun n q => lpIf b T (-(nI n)) false q)
  else if term b T p = 28 then lpIf b T 0 true (nx b T p)
  else (p, none)
def rdL {α : Type} (b : Nat → Int32) (T : Nat) (line : α → Nat → PR α) (mx : Nat) : Nat → Nat → α → Nat → PR α
  | 0, _, a, p => (p, some a)
  | f + 1, k, a, p => if k = mx then (p, none) else prB (line a p) (fun a2 q => if T ≤ q then (q, some a2) else if term b T q = 4 then rdL b T line mx f (k + 1) a2 (nx b T q) else (q, none))
def rdAll {α : Type} (b : Nat → Int32) (T : Nat) (line : α → Nat → PR α) (mx : Nat) (a : α) : PR α :=
  if T ≤ skp b T 0 then (skp b T 0, some a) else rdL b T line mx 20 0 a (skp b T 0)
def lawLine (b : Nat → Int32) (T : Nat) (L : Lw) (p : Nat) : PR Lw := prB (lpLine b T p) (fun l q => (q, some (L ++ [l])))
def parseLaw (b : Nat → Int32) (T : Nat) : PR Lw := rdAll b T (lawLine b T) 12 []
section GRAM
variable {b : Nat → Int32} {T : Nat}
theorem prB_s {α β : Type} {q : Nat} {x : α} {k : α → Nat → PR β} : prB (q, some x) k = k x q := rfl
theorem prB_n {α β : Type} {q : Nat} {k : α → Nat → PR β} : prB (q, (none : Option α)) k = (q, none) := rfl
/-- what holds of a result: the place, the number of steps, what they ask of the stack -/
def GdR (b : Nat → Int32) (T m p : Nat) (r : PR (List Int32)) : Prop := r.1 ≤ T ∧ ∀ c, r.2 = some c → p < r.1 ∧ skp b T r.1 = r.1 ∧ c.length ≤ r.1 - p ∧ ∀ d, d + m ≤ 60 → depC c d = some (d + 1)
theorem GdR.no {m p q : Nat} (h : q ≤ T) : GdR b T m p (q, none) := ⟨h, fun _ e => nomatch e⟩
theorem dep_fact {k d : Nat} (hk : 1000 ≤ k) (hk2 : k ≤ 1008) (h : d < 60) {cs : List Int32} : depC (nI k :: cs) d = depC cs (d + 1) := by
  rw [depC, if_neg (show ¬ nI k < 1000 from nI_nlt (b := 1000) hk (by omega)), if_pos ⟨show nI k ≤ 1008 from nI_le (b := 1008) hk2 (by omega), h⟩]
theorem dep_num {k d : Nat} (hk : k < 1000) (h : d < 60) {cs : List Int32} : depC (nI k :: cs) d = depC cs (d + 1) := by
  rw [depC, if_pos (show nI k < 1000 from nI_lt (b := 1000) hk (by omega)), if_neg (nI_pos (by omega)), if_pos h]
theorem dep_two {c : Int32} (hc : c < 0) (h4 : c ≠ -4) {d : Nat} (h : 2 ≤ d) {cs : List Int32} : depC (c :: cs) d = depC cs (d - 1) := by
  rw [depC, if_pos (Int32.lt_trans hc (by decide)), if_pos hc, if_neg h4, if_pos h]
theorem dep_not {d : Nat} (h : 1 ≤ d) {cs : List Int32} : depC (-4 :: cs) d = depC cs d := by
  rw [depC, if_pos (by decide), if_pos (by decide), if_pos rfl, if_pos h]
theorem g_part {p : Nat} (hp : p ≤ T) : GdR b T 1 p (lpPart b T p) := by
  unfold lpPart
  split
  · rename_i h
    have hl := term_lt (b := b) (T := T) (p := p) (by omega)
    have hg := nx_gt (b := b) hl
    refine ⟨hg.2, fun c e => ?_⟩
    cases e
    refine ⟨hg.1, nx_id hl, by simp only [List.length_cons, List.length_nil]; omega, fun d hd => ?_⟩
    rw [dep_fact (by omega) (by omega) (by omega)]; rfl
  · split
    · rename_i h
      have hl := term_lt (b := b) (T := T) (p := p) (by omega)
      have hg := nx_gt (b := b) hl
      have hv := (val_I h).2
      refine ⟨hg.2, fun c e => ?_⟩
      cases e
      refine ⟨hg.1, nx_id hl, by simp only [List.length_cons, List.length_nil]; omega, fun d hd => ?_⟩
      rw [dep_num (by omega) (by omega)]; rfl
    · exact GdR.no hp
/-- two results joined by a step -/
theorem g_join {m p q : Nat} {c : List Int32} {x : Int32} (hx : x < 0) (h4 : x ≠ -4) (hpq : p < q) (hq : q < T) (hc : c.length ≤ q - p) (hd : ∀ d, d + m ≤ 60 → depC c d = some (d + 1)) {r : PR (List Int32)} {m2 : Nat} (g : GdR b T m2 (nx b T q) r) (hm : m2 + 1 ≤ m) {c2 : List Int32} (h2 : r.2 = some c2) : p < r.1 ∧ skp b T r.1 = r.1 ∧ (c ++ c2 ++ [x]).length ≤ r.1 - p ∧ ∀ d, d + m ≤ 60 → depC (c ++ c2 ++ [x]) d = some (d + 1) := by
  obtain ⟨g1, g2⟩ := g
  obtain ⟨g3, g4, g5, g6⟩ := g2 c2 h2
  have hn := nx_gt (b := b) hq
  refine ⟨by omega, g4, by simp only [List.length_append, List.length_cons, List.length_nil]; omega, fun d hdm => ?_⟩
  rw [depC_app, depC_app, hd d hdm, Option.bind_some, g6 (d + 1) (by omega), Option.bind_some, dep_two hx h4 (by omega)]
  rfl
theorem g_sumL : ∀ (f : Nat) (p q : Nat) (c : List Int32), p < q → q ≤ T → skp b T q = q → c.length ≤ q - p → (∀ d, d + 2 ≤ 60 → depC c d = some (d + 1)) → GdR b T 2 p (lpSumL b T f c q) := by
  intro f
  induction f with
  | zero => intro p q c h1 h2 h3 h4 h5; exact ⟨h2, fun c2 e => by cases e; exact ⟨h1, h3, h4, h5⟩⟩
  | succ f ih =>
    intro p q c h1 h2 h3 h4 h5
    unfold lpSumL
    split
    · rename_i ht
      have hl := term_lt (b := b) (T := T) (p := q) (by omega)
      have hn := nx_gt (b := b) hl
      have g := g_part (b := b) (T := T) (p := nx b T q) hn.2
      cases hr : (lpPart b T (nx b T q)).2 with
      | none => unfold prB; rw [hr]; exact GdR.no g.1
      | some c2 =>
        unfold prB
        rw [hr]
        obtain ⟨j1, j2, j3, j4⟩ := g_join (x := -1) (by decide) (by decide) h1 hl h4 h5 g (by omega) hr
        exact ih p _ _ j1 g.1 j2 j3 j4
    · exact ⟨h2, fun c2 e => by cases e; exact ⟨h1, h3, h4, h5⟩⟩
theorem g_sum {p : Nat} (hp : p ≤ T) : GdR b T 2 p (lpSum b T p) := by
  have g := g_part (b := b) hp
  unfold lpSum
  cases hr : (lpPart b T p).2 with
  | none => unfold prB; rw [hr]; exact GdR.no g.1
  | some c =>
    unfold prB
    rw [hr]
    obtain ⟨j1, j2, j3, j4⟩ := g.2 c hr
    exact g_sumL 400 p _ c j1 g.1 j2 j3 (fun d hd => j4 d (by omega))
theorem g_plain {p : Nat} (hp : p ≤ T) : GdR b T 3 p (lpPlain b T p) := by
  unfold lpPlain
  have one : ∀ k, k = 1007 ∨ k = 1008 → p < T → GdR b T 3 p (nx b T p, some [nI k]) := by
    intro k hk hl
    have hg := nx_gt (b := b) hl
    refine ⟨hg.2, fun c e => ?_⟩
    cases e
    refine ⟨hg.1, nx_id hl, by simp only [List.length_cons, List.length_nil]; omega, fun d hd => ?_⟩
    rw [dep_fact (by omega) (by omega) (by omega)]; rfl
  split
  · exact one 1007 (Or.inl rfl) (term_lt (b := b) (T := T) (p := p) (by omega))
  · split
    · exact one 1008 (Or.inr rfl) (term_lt (b := b) (T := T) (p := p) (by omega))
    · have g := g_sum (b := b) hp
      cases hr : (lpSum b T p).2 with
      | none => unfold prB; rw [hr]; exact GdR.no g.1
      | some c =>
        obtain ⟨j1, j2, j3, j4⟩ := g.2 c hr
        have two : ∀ x : Int32, x < 0 → x ≠ -4 → (lpSum b T p).1 < T → GdR b T 3 p (prB (lpSum b T (nx b T (lpSum b T p).1)) (fun c2 r => (r, some (c ++ c2 ++ [x])))) := by
          intro x hx h4 hl
          have hn := nx_gt (b := b) hl
          have g2 := g_sum (b := b) (T := T) (p := nx b T (lpSum b T p).1) hn.2
          cases hr2 : (lpSum b T (nx b T (lpSum b T p).1)).2 with
          | none => unfold prB; rw [hr2]; exact GdR.no g2.1
          | some c2 =>
            unfold prB
            rw [hr2]
            have := g_join (m := 3) hx h4 j1 hl j3 (fun d hd => j4 d (by omega)) g2 (by omega) hr2
            exact ⟨g2.1, fun c3 e => by cases e; exact this⟩
        unfold prB
        rw [hr]
        show GdR b T 3 p (if term b T (lpSum b T p).1 = 8 then _ else _)
        split
        · exact two (-2) (by decide) (by decide) (term_lt (b := b) (T := T) (p := (lpSum b T p).1) (by omega))
        · split
          · exact two (-3) (by decide) (by decide) (term_lt (b := b) (T := T) (p := (lpSum b T p).1) (by omega))
          · exact GdR.no g.1
theorem g_evL {A : Nat → PR (List Int32)} {m : Nat} (hA : ∀ p, p ≤ T → GdR b T m p (A p)) : ∀ (f : Nat) (p q : Nat) (c : List Int32), p < q → q ≤ T → skp b T q = q → c.length ≤ q - p → (∀ d, d + (m + 1) ≤ 60 → depC c d = some (d + 1)) → GdR b T (m + 1) p (lpEvL b T A f c q) := by
  intro f
  induction f with
  | zero => intro p q c h1 h2 h3 h4 h5; exact ⟨h2, fun c2 e => by cases e; exact ⟨h1, h3, h4, h5⟩⟩
  | succ f ih =>
    intro p q c h1 h2 h3 h4 h5
    unfold lpEvL
    split
    · rename_i ht
      have hl := term_lt (b := b) (T := T) (p := q) (by omega)
      have hn := nx_gt (b := b) hl
      have g := hA (nx b T q) hn.2
      cases hr : (A (nx b T q)).2 with
      | none => unfold prB; rw [hr]; exact GdR.no g.1
      | some c2 =>
        unfold prB
        rw [hr]
        obtain ⟨j1, j2, j3, j4⟩ := g_join (x := -5) (by decide) (by decide) h1 hl h4 h5 g (by omega) hr
        exact ih p _ _ j1 g.1 j2 j3 j4
    · exact ⟨h2, fun c2 e => by cases e; exact ⟨h1, h3, h4, h5⟩⟩
theorem g_ev {A : Nat → PR (List Int32)} {m : Nat} (hA : ∀ p, p ≤ T → GdR b T m p (A p)) {p : Nat} (hp : p ≤ T) : GdR b T (m + 1) p (lpEv b T A p) := by
  have g := hA p hp
  unfold lpEv
  cases hr : (A p).2 with
  | none => unfold prB; rw [hr]; exact GdR.no g.1
  | some c =>
    unfold prB
    rw [hr]
    obtain ⟨j1, j2, j3, j4⟩ := g.2 c hr
    exact g_evL hA 400 p _ c j1 g.1 j2 j3 (fun d hd => j4 d (by omega))
theorem g_soL {A : Nat → PR (List Int32)} {m : Nat} (hA : ∀ p, p ≤ T → GdR b T m p (A p)) : ∀ (f : Nat) (p q : Nat) (c : List Int32), p < q → q ≤ T → skp b T q = q → c.length ≤ q - p → (∀ d, d + (m + 2) ≤ 60 → depC c d = some (d + 1)) → GdR b T (m + 2) p (lpSoL b T A f c q) := by
  intro f
  induction f with
  | zero => intro p q c h1 h2 h3 h4 h5; exact ⟨h2, fun c2 e => by cases e; exact ⟨h1, h3, h4, h5⟩⟩
  | succ f ih =>
    intro p q c h1 h2 h3 h4 h5
    unfold lpSoL
    split
    · rename_i ht
      have hl := term_lt (b := b) (T := T) (p := q) (by omega)
      have hn := nx_gt (b := b) hl
      have g := g_ev hA (p := nx b T q) hn.2
      cases hr : (lpEv b T A (nx b T q)).2 with
      | none => unfold prB; rw [hr]; exact GdR.no g.1
      | some c2 =>
        unfold prB
        rw [hr]
        obtain ⟨j1, j2, j3, j4⟩ := g_join (x := -6) (by decide) (by decide) h1 hl h4 h5 g (by omega) hr
        exact ih p _ _ j1 g.1 j2 j3 j4
    · exact ⟨h2, fun c2 e => by cases e; exact ⟨h1, h3, h4, h5⟩⟩
theorem g_so {A : Nat → PR (List Int32)} {m : Nat} (hA : ∀ p, p ≤ T → GdR b T m p (A p)) {p : Nat} (hp : p ≤ T) : GdR b T (m + 2) p (lpSo b T A p) := by
  have g := g_ev hA hp
  unfold lpSo
  cases hr : (lpEv b T A p).2 with
  | none => unfold prB; rw [hr]; exact GdR.no g.1
  | some c =>
    unfold prB
    rw [hr]
    obtain ⟨j1, j2, j3, j4⟩ := g.2 c hr
    exact g_soL hA 400 p _ c j1 g.1 j2 j3 (fun d hd => j4 d (by omega))
theorem g_atom : ∀ (D : Nat), ∀ p, p ≤ T → GdR b T (3 + 2 * D) p (lpAtom b T D p) := by
  intro D
  induction D with
  | zero =>
    intro p hp
    unfold lpAtom
    split
    · exact GdR.no hp
    · exact g_plain hp
  | succ D ih =>
    intro p hp
    unfold lpAtom
    split
    · have hl := term_lt (b := b) (T := T) (p := p) (by omega)
      have hn := nx_gt (b := b) hl
      have g := ih (nx b T p) hn.2
      cases hr : (lpAtom b T D (nx b T p)).2 with
      | none => unfold prB; rw [hr]; exact GdR.no g.1
      | some c =>
        unfold prB
        rw [hr]
        obtain ⟨j1, j2, j3, j4⟩ := g.2 c hr
        refine ⟨g.1, fun c2 e => ?_⟩
        cases e
        refine ⟨by show p < (lpAtom b T D (nx b T p)).1; omega, j2, by show (c ++ [-4]).length ≤ (lpAtom b T D (nx b T p)).1 - p; simp only [List.length_append, List.length_cons, List.length_nil]; omega, fun d hd => ?_⟩
        rw [depC_app, j4 d (by omega), Option.bind_some, dep_not (by omega)]
        rfl
    · split
      · have hl := term_lt (b := b) (T := T) (p := p) (by omega)
        have hn := nx_gt (b := b) hl
        have g := g_so ih (p := nx b T p) hn.2
        cases hr : (lpSo b T (lpAtom b T D) (nx b T p)).2 with
        | none => unfold prB; rw [hr]; exact GdR.no g.1
        | some c =>
          unfold prB
          rw [hr]
          obtain ⟨j1, j2, j3, j4⟩ := g.2 c hr
          show GdR b T _ p (if term b T (lpSo b T (lpAtom b T D) (nx b T p)).1 = 6 then _ else _)
          split
          · have hl2 := term_lt (b := b) (T := T) (p := (lpSo b T (lpAtom b T D) (nx b T p)).1) (by omega)
            have hn2 := nx_gt (b := b) hl2
            refine ⟨hn2.2, fun c2 e => ?_⟩
            cases e
            exact ⟨by show p < nx b T _; omega, nx_id hl2, by show c.length ≤ nx b T _ - p; omega, fun d hd => j4 d (by omega)⟩
          · exact GdR.no g.1
      · have g := g_plain (b := b) hp
        exact ⟨g.1, fun c e => by obtain ⟨j1, j2, j3, j4⟩ := g.2 c e; exact ⟨j1, j2, j3, fun d hd => j4 d (by omega)⟩⟩
theorem g_cond {p : Nat} (hp : p ≤ T) : GdR b T 17 p (lpSo b T (lpAtom b T 6) p) := g_so (g_atom 6) hp
end GRAM

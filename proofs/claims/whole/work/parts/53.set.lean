/-! one number put -/
section PUTS
variable {σ : Mem} {B : Nat} {v : View} {e : Nat}
theorem SC.move {σ' : Mem} (R : SC σ B v e) (h : ∀ c, B ≤ c → c < B + 21 → σ' c = σ c) : SC σ' B v e := {
    n := by rw [h _ (by omega) (by omega)]; exact R.n,
    k := by rw [h _ (by omega) (by omega)]; exact R.k,
    texts := by rw [h _ (by omega) (by omega)]; exact R.texts,
    hour := by rw [h _ (by omega) (by omega)]; exact R.hour,
    night := by rw [h _ (by omega) (by omega)]; exact R.night,
    fog := by rw [h _ (by omega) (by omega)]; exact R.fog,
    mist := by rw [h _ (by omega) (by omega)]; exact R.mist,
    seed := by rw [h _ (by omega) (by omega)]; exact R.seed,
    burn := by rw [h _ (by omega) (by omega)]; exact R.burn,
    oil := fun p hp => by rw [h _ (by omega) (by omega)]; exact R.oil p hp,
    own := fun p hp => by rw [h _ (by omega) (by omega)]; exact R.own p hp,
    dark := fun p hp => by rw [h _ (by omega) (by omega)]; exact R.dark p hp,
    way := fun p hp => by rw [h _ (by omega) (by omega)]; exact R.way p hp,
    pl := fun p hp => by rw [h _ (by omega) (by omega)]; exact R.pl p hp,
    tp := fun p hp => by rw [h _ (by omega) (by omega)]; exact R.tp p hp,
    hd := fun p hp => by rw [h _ (by omega) (by omega)]; exact R.hd p hp,
    lt := fun p hp => by rw [h _ (by omega) (by omega)]; exact R.lt p hp,
    like := fun w o hw ho => by rw [h _ (by omega) (by omega)]; exact R.like w o hw ho,
    log := by
      obtain ⟨c, h1, h2, h3, h4⟩ := R.log
      exact ⟨c, h1, by rw [h _ (by omega) (by omega)]; exact h2, h3, fun a r q => by rw [h _ (by omega) (by omega)]; exact h4 a r q⟩ }
theorem SC.s_texts (R : SC σ B v e) (x : Nat) : SC (st σ B 2 (nI x)) B { v with texts := x } e := {
    n := by rw [st_at' (by decide)]; exact R.n,
    k := by rw [st_at' (by decide)]; exact R.k,
    hour := by rw [st_at' (by decide)]; exact R.hour,
    night := by rw [st_at' (by decide)]; exact R.night,
    fog := by rw [st_at' (by decide)]; exact R.fog,
    mist := by rw [st_at' (by decide)]; exact R.mist,
    seed := by rw [st_at' (by decide)]; exact R.seed,
    burn := by rw [st_at' (by decide)]; exact R.burn,
    oil := fun p hp => by rw [st_n (by omega)]; exact R.oil p hp,
    own := fun p hp => by rw [st_n (by omega)]; exact R.own p hp,
    dark := fun p hp => by rw [st_n (by omega)]; exact R.dark p hp,
    way := fun p hp => by rw [st_n (by omega)]; exact R.way p hp,
    pl := fun p hp => by rw [st_n (by omega)]; exact R.pl p hp,
    tp := fun p hp => by rw [st_n (by omega)]; exact R.tp p hp,
    hd := fun p hp => by rw [st_n (by omega)]; exact R.hd p hp,
    lt := fun p hp => by rw [st_n (by omega)]; exact R.lt p hp,
    like := fun w o hw ho => by rw [st_n (by omega)]; exact R.like w o hw ho,
    log := by
      obtain ⟨c, h1, h2, h3, h4⟩ := R.log
      exact ⟨c, h1, by rw [st_at' (by decide)]; exact h2, h3, fun a r h => by rw [st_n (by omega)]; exact h4 a r h⟩,
    texts := by rw [st_at] }
theorem SC.s_hour (R : SC σ B v e) (x : Nat) : SC (st σ B 3 (nI x)) B { v with hour := x } e := {
    n := by rw [st_at' (by decide)]; exact R.n,
    k := by rw [st_at' (by decide)]; exact R.k,
    texts := by rw [st_at' (by decide)]; exact R.texts,
    night := by rw [st_at' (by decide)]; exact R.night,
    fog := by rw [st_at' (by decide)]; exact R.fog,
    mist := by rw [st_at' (by decide)]; exact R.mist,
    seed := by rw [st_at' (by decide)]; exact R.seed,
    burn := by rw [st_at' (by decide)]; exact R.burn,
    oil := fun p hp => by rw [st_n (by omega)]; exact R.oil p hp,
    own := fun p hp => by rw [st_n (by omega)]; exact R.own p hp,
    dark := fun p hp => by rw [st_n (by omega)]; exact R.dark p hp,
    way := fun p hp => by rw [st_n (by omega)]; exact R.way p hp,
    pl := fun p hp => by rw [st_n (by omega)]; exact R.pl p hp,
    tp := fun p hp => by rw [st_n (by omega)]; exact R.tp p hp,
    hd := fun p hp => by rw [st_n (by omega)]; exact R.hd p hp,
    lt := fun p hp => by rw [st_n (by omega)]; exact R.lt p hp,
    like := fun w o hw ho => by rw [st_n (by omega)]; exact R.like w o hw ho,
    log := by
      obtain ⟨c, h1, h2, h3, h4⟩ := R.log
      exact ⟨c, h1, by rw [st_at' (by decide)]; exact h2, h3, fun a r h => by rw [st_n (by omega)]; exact h4 a r h⟩,
    hour := by rw [st_at] }
theorem SC.s_night (R : SC σ B v e) (x : Nat) : SC (st σ B 4 (nI x)) B { v with night := x } e := {
    n := by rw [st_at' (by decide)]; exact R.n,
    k := by rw [st_at' (by decide)]; exact R.k,
    texts := by rw [st_at' (by decide)]; exact R.texts,
    hour := by rw [st_at' (by decide)]; exact R.hour,
    fog := by rw [st_at' (by decide)]; exact R.fog,
    mist := by rw [st_at' (by decide)]; exact R.mist,
    seed := by rw [st_at' (by decide)]; exact R.seed,
    burn := by rw [st_at' (by decide)]; exact R.burn,
    oil := fun p hp => by rw [st_n (by omega)]; exact R.oil p hp,
    own := fun p hp => by rw [st_n (by omega)]; exact R.own p hp,
    dark := fun p hp => by rw [st_n (by omega)]; exact R.dark p hp,
    way := fun p hp => by rw [st_n (by omega)]; exact R.way p hp,
    pl := fun p hp => by rw [st_n (by omega)]; exact R.pl p hp,
    tp := fun p hp => by rw [st_n (by omega)]; exact R.tp p hp,
    hd := fun p hp => by rw [st_n (by omega)]; exact R.hd p hp,
    lt := fun p hp => by rw [st_n (by omega)]; exact R.lt p hp,
    like := fun w o hw ho => by rw [st_n (by omega)]; exact R.like w o hw ho,
    log := by
      obtain ⟨c, h1, h2, h3, h4⟩ := R.log
      exact ⟨c, h1, by rw [st_at' (by decide)]; exact h2, h3, fun a r h => by rw [st_n (by omega)]; exact h4 a r h⟩,
    night := by rw [st_at] }
theorem SC.s_fog (R : SC σ B v e) (x : Nat) : SC (st σ B 5 (nI x)) B { v with fog := x } e := {
    n := by rw [st_at' (by decide)]; exact R.n,
    k := by rw [st_at' (by decide)]; exact R.k,
    texts := by rw [st_at' (by decide)]; exact R.texts,
    hour := by rw [st_at' (by decide)]; exact R.hour,
    night := by rw [st_at' (by decide)]; exact R.night,
    mist := by rw [st_at' (by decide)]; exact R.mist,
    seed := by rw [st_at' (by decide)]; exact R.seed,
    burn := by rw [st_at' (by decide)]; exact R.burn,
    oil := fun p hp => by rw [st_n (by omega)]; exact R.oil p hp,
    own := fun p hp => by rw [st_n (by omega)]; exact R.own p hp,
    dark := fun p hp => by rw [st_n (by omega)]; exact R.dark p hp,
    way := fun p hp => by rw [st_n (by omega)]; exact R.way p hp,
    pl := fun p hp => by rw [st_n (by omega)]; exact R.pl p hp,
    tp := fun p hp => by rw [st_n (by omega)]; exact R.tp p hp,
    hd := fun p hp => by rw [st_n (by omega)]; exact R.hd p hp,
    lt := fun p hp => by rw [st_n (by omega)]; exact R.lt p hp,
    like := fun w o hw ho => by rw [st_n (by omega)]; exact R.like w o hw ho,
    log := by
      obtain ⟨c, h1, h2, h3, h4⟩ := R.log
      exact ⟨c, h1, by rw [st_at' (by decide)]; exact h2, h3, fun a r h => by rw [st_n (by omega)]; exact h4 a r h⟩,
    fog := by rw [st_at] }
theorem SC.s_mist (R : SC σ B v e) (x : Bool) : SC (st σ B 6 (b2i x)) B { v with mist := x } e := {
    n := by rw [st_at' (by decide)]; exact R.n,
    k := by rw [st_at' (by decide)]; exact R.k,
    texts := by rw [st_at' (by decide)]; exact R.texts,
    hour := by rw [st_at' (by decide)]; exact R.hour,
    night := by rw [st_at' (by decide)]; exact R.night,
    fog := by rw [st_at' (by decide)]; exact R.fog,
    seed := by rw [st_at' (by decide)]; exact R.seed,
    burn := by rw [st_at' (by decide)]; exact R.burn,
    oil := fun p hp => by rw [st_n (by omega)]; exact R.oil p hp,
    own := fun p hp => by rw [st_n (by omega)]; exact R.own p hp,
    dark := fun p hp => by rw [st_n (by omega)]; exact R.dark p hp,
    way := fun p hp => by rw [st_n (by omega)]; exact R.way p hp,
    pl := fun p hp => by rw [st_n (by omega)]; exact R.pl p hp,
    tp := fun p hp => by rw [st_n (by omega)]; exact R.tp p hp,
    hd := fun p hp => by rw [st_n (by omega)]; exact R.hd p hp,
    lt := fun p hp => by rw [st_n (by omega)]; exact R.lt p hp,
    like := fun w o hw ho => by rw [st_n (by omega)]; exact R.like w o hw ho,
    log := by
      obtain ⟨c, h1, h2, h3, h4⟩ := R.log
      exact ⟨c, h1, by rw [st_at' (by decide)]; exact h2, h3, fun a r h => by rw [st_n (by omega)]; exact h4 a r h⟩,
    mist := by rw [st_at] }
theorem SC.s_seed (R : SC σ B v e) (x : Int32) : SC (st σ B 7 (x)) B { v with seed := x } e := {
    n := by rw [st_at' (by decide)]; exact R.n,
    k := by rw [st_at' (by decide)]; exact R.k,
    texts := by rw [st_at' (by decide)]; exact R.texts,
    hour := by rw [st_at' (by decide)]; exact R.hour,
    night := by rw [st_at' (by decide)]; exact R.night,
    fog := by rw [st_at' (by decide)]; exact R.fog,
    mist := by rw [st_at' (by decide)]; exact R.mist,
    burn := by rw [st_at' (by decide)]; exact R.burn,
    oil := fun p hp => by rw [st_n (by omega)]; exact R.oil p hp,
    own := fun p hp => by rw [st_n (by omega)]; exact R.own p hp,
    dark := fun p hp => by rw [st_n (by omega)]; exact R.dark p hp,
    way := fun p hp => by rw [st_n (by omega)]; exact R.way p hp,
    pl := fun p hp => by rw [st_n (by omega)]; exact R.pl p hp,
    tp := fun p hp => by rw [st_n (by omega)]; exact R.tp p hp,
    hd := fun p hp => by rw [st_n (by omega)]; exact R.hd p hp,
    lt := fun p hp => by rw [st_n (by omega)]; exact R.lt p hp,
    like := fun w o hw ho => by rw [st_n (by omega)]; exact R.like w o hw ho,
    log := by
      obtain ⟨c, h1, h2, h3, h4⟩ := R.log
      exact ⟨c, h1, by rw [st_at' (by decide)]; exact h2, h3, fun a r h => by rw [st_n (by omega)]; exact h4 a r h⟩,
    seed := by rw [st_at] }
theorem SC.s_burn (R : SC σ B v e) (x : Nat → Bool) : SC (st σ B 8 (mkB x v.n)) B { v with burn := x } e := {
    n := by rw [st_at' (by decide)]; exact R.n,
    k := by rw [st_at' (by decide)]; exact R.k,
    texts := by rw [st_at' (by decide)]; exact R.texts,
    hour := by rw [st_at' (by decide)]; exact R.hour,
    night := by rw [st_at' (by decide)]; exact R.night,
    fog := by rw [st_at' (by decide)]; exact R.fog,
    mist := by rw [st_at' (by decide)]; exact R.mist,
    seed := by rw [st_at' (by decide)]; exact R.seed,
    oil := fun p hp => by rw [st_n (by omega)]; exact R.oil p hp,
    own := fun p hp => by rw [st_n (by omega)]; exact R.own p hp,
    dark := fun p hp => by rw [st_n (by omega)]; exact R.dark p hp,
    way := fun p hp => by rw [st_n (by omega)]; exact R.way p hp,
    pl := fun p hp => by rw [st_n (by omega)]; exact R.pl p hp,
    tp := fun p hp => by rw [st_n (by omega)]; exact R.tp p hp,
    hd := fun p hp => by rw [st_n (by omega)]; exact R.hd p hp,
    lt := fun p hp => by rw [st_n (by omega)]; exact R.lt p hp,
    like := fun w o hw ho => by rw [st_n (by omega)]; exact R.like w o hw ho,
    log := by
      obtain ⟨c, h1, h2, h3, h4⟩ := R.log
      exact ⟨c, h1, by rw [st_at' (by decide)]; exact h2, h3, fun a r h => by rw [st_n (by omega)]; exact h4 a r h⟩,
    burn := by rw [st_at] }
theorem SC.s_oil (R : SC σ B v e) (p : Nat) (x : Nat) : SC (st σ (B + 2) p (nI x)) B { v with oil := fun q => if q = p then x else v.oil q } e := {
    n := by rw [st_n (by omega)]; exact R.n,
    k := by rw [st_n (by omega)]; exact R.k,
    texts := by rw [st_n (by omega)]; exact R.texts,
    hour := by rw [st_n (by omega)]; exact R.hour,
    night := by rw [st_n (by omega)]; exact R.night,
    fog := by rw [st_n (by omega)]; exact R.fog,
    mist := by rw [st_n (by omega)]; exact R.mist,
    seed := by rw [st_n (by omega)]; exact R.seed,
    burn := by rw [st_n (by omega)]; exact R.burn,
    own := fun p hp => by rw [st_n (by omega)]; exact R.own p hp,
    dark := fun p hp => by rw [st_n (by omega)]; exact R.dark p hp,
    way := fun p hp => by rw [st_n (by omega)]; exact R.way p hp,
    pl := fun p hp => by rw [st_n (by omega)]; exact R.pl p hp,
    tp := fun p hp => by rw [st_n (by omega)]; exact R.tp p hp,
    hd := fun p hp => by rw [st_n (by omega)]; exact R.hd p hp,
    lt := fun p hp => by rw [st_n (by omega)]; exact R.lt p hp,
    like := fun w o hw ho => by rw [st_n (by omega)]; exact R.like w o hw ho,
    log := by
      obtain ⟨c, h1, h2, h3, h4⟩ := R.log
      exact ⟨c, h1, by rw [st_n (by omega)]; exact h2, h3, fun a r h => by rw [st_n (by omega)]; exact h4 a r h⟩,
    oil := fun q hq => by
      by_cases h : q = p
      · subst h; rw [st_at]; simp
      · rw [st_at' h]; simp only [h, if_false]; exact R.oil q hq }
theorem SC.s_own (R : SC σ B v e) (p : Nat) (x : Option Nat) : SC (st σ (B + 4) p (oI x)) B { v with own := fun q => if q = p then x else v.own q } e := {
    n := by rw [st_n (by omega)]; exact R.n,
    k := by rw [st_n (by omega)]; exact R.k,
    texts := by rw [st_n (by omega)]; exact R.texts,
    hour := by rw [st_n (by omega)]; exact R.hour,
    night := by rw [st_n (by omega)]; exact R.night,
    fog := by rw [st_n (by omega)]; exact R.fog,
    mist := by rw [st_n (by omega)]; exact R.mist,
    seed := by rw [st_n (by omega)]; exact R.seed,
    burn := by rw [st_n (by omega)]; exact R.burn,
    oil := fun p hp => by rw [st_n (by omega)]; exact R.oil p hp,
    dark := fun p hp => by rw [st_n (by omega)]; exact R.dark p hp,
    way := fun p hp => by rw [st_n (by omega)]; exact R.way p hp,
    pl := fun p hp => by rw [st_n (by omega)]; exact R.pl p hp,
    tp := fun p hp => by rw [st_n (by omega)]; exact R.tp p hp,
    hd := fun p hp => by rw [st_n (by omega)]; exact R.hd p hp,
    lt := fun p hp => by rw [st_n (by omega)]; exact R.lt p hp,
    like := fun w o hw ho => by rw [st_n (by omega)]; exact R.like w o hw ho,
    log := by
      obtain ⟨c, h1, h2, h3, h4⟩ := R.log
      exact ⟨c, h1, by rw [st_n (by omega)]; exact h2, h3, fun a r h => by rw [st_n (by omega)]; exact h4 a r h⟩,
    own := fun q hq => by
      by_cases h : q = p
      · subst h; rw [st_at]; simp
      · rw [st_at' h]; simp only [h, if_false]; exact R.own q hq }
theorem SC.s_dark (R : SC σ B v e) (p : Nat) (x : Nat) : SC (st σ (B + 6) p (nI x)) B { v with dark := fun q => if q = p then x else v.dark q } e := {
    n := by rw [st_n (by omega)]; exact R.n,
    k := by rw [st_n (by omega)]; exact R.k,
    texts := by rw [st_n (by omega)]; exact R.texts,
    hour := by rw [st_n (by omega)]; exact R.hour,
    night := by rw [st_n (by omega)]; exact R.night,
    fog := by rw [st_n (by omega)]; exact R.fog,
    mist := by rw [st_n (by omega)]; exact R.mist,
    seed := by rw [st_n (by omega)]; exact R.seed,
    burn := by rw [st_n (by omega)]; exact R.burn,
    oil := fun p hp => by rw [st_n (by omega)]; exact R.oil p hp,
    own := fun p hp => by rw [st_n (by omega)]; exact R.own p hp,
    way := fun p hp => by rw [st_n (by omega)]; exact R.way p hp,
    pl := fun p hp => by rw [st_n (by omega)]; exact R.pl p hp,
    tp := fun p hp => by rw [st_n (by omega)]; exact R.tp p hp,
    hd := fun p hp => by rw [st_n (by omega)]; exact R.hd p hp,
    lt := fun p hp => by rw [st_n (by omega)]; exact R.lt p hp,
    like := fun w o hw ho => by rw [st_n (by omega)]; exact R.like w o hw ho,
    log := by
      obtain ⟨c, h1, h2, h3, h4⟩ := R.log
      exact ⟨c, h1, by rw [st_n (by omega)]; exact h2, h3, fun a r h => by rw [st_n (by omega)]; exact h4 a r h⟩,
    dark := fun q hq => by
      by_cases h : q = p
      · subst h; rw [st_at]; simp
      · rw [st_at' h]; simp only [h, if_false]; exact R.dark q hq }
theorem SC.s_way (R : SC σ B v e) (p : Nat) (x : Nat → Bool) : SC (st σ (B + 8) p (mkB x v.n)) B { v with way := fun q => if q = p then x else v.way q } e := {
    n := by rw [st_n (by omega)]; exact R.n,
    k := by rw [st_n (by omega)]; exact R.k,
    texts := by rw [st_n (by omega)]; exact R.texts,
    hour := by rw [st_n (by omega)]; exact R.hour,
    night := by rw [st_n (by omega)]; exact R.night,
    fog := by rw [st_n (by omega)]; exact R.fog,
    mist := by rw [st_n (by omega)]; exact R.mist,
    seed := by rw [st_n (by omega)]; exact R.seed,
    burn := by rw [st_n (by omega)]; exact R.burn,
    oil := fun p hp => by rw [st_n (by omega)]; exact R.oil p hp,
    own := fun p hp => by rw [st_n (by omega)]; exact R.own p hp,
    dark := fun p hp => by rw [st_n (by omega)]; exact R.dark p hp,
    pl := fun p hp => by rw [st_n (by omega)]; exact R.pl p hp,
    tp := fun p hp => by rw [st_n (by omega)]; exact R.tp p hp,
    hd := fun p hp => by rw [st_n (by omega)]; exact R.hd p hp,
    lt := fun p hp => by rw [st_n (by omega)]; exact R.lt p hp,
    like := fun w o hw ho => by rw [st_n (by omega)]; exact R.like w o hw ho,
    log := by
      obtain ⟨c, h1, h2, h3, h4⟩ := R.log
      exact ⟨c, h1, by rw [st_n (by omega)]; exact h2, h3, fun a r h => by rw [st_n (by omega)]; exact h4 a r h⟩,
    way := fun q hq => by
      by_cases h : q = p
      · subst h; rw [st_at]; simp
      · rw [st_at' h]; simp only [h, if_false]; exact R.way q hq }
theorem SC.s_pl (R : SC σ B v e) (p : Nat) (x : Nat) : SC (st σ (B + 10) p (nI x)) B { v with pl := fun q => if q = p then x else v.pl q } e := {
    n := by rw [st_n (by omega)]; exact R.n,
    k := by rw [st_n (by omega)]; exact R.k,
    texts := by rw [st_n (by omega)]; exact R.texts,
    hour := by rw [st_n (by omega)]; exact R.hour,
    night := by rw [st_n (by omega)]; exact R.night,
    fog := by rw [st_n (by omega)]; exact R.fog,
    mist := by rw [st_n (by omega)]; exact R.mist,
    seed := by rw [st_n (by omega)]; exact R.seed,
    burn := by rw [st_n (by omega)]; exact R.burn,
    oil := fun p hp => by rw [st_n (by omega)]; exact R.oil p hp,
    own := fun p hp => by rw [st_n (by omega)]; exact R.own p hp,
    dark := fun p hp => by rw [st_n (by omega)]; exact R.dark p hp,
    way := fun p hp => by rw [st_n (by omega)]; exact R.way p hp,
    tp := fun p hp => by rw [st_n (by omega)]; exact R.tp p hp,
    hd := fun p hp => by rw [st_n (by omega)]; exact R.hd p hp,
    lt := fun p hp => by rw [st_n (by omega)]; exact R.lt p hp,
    like := fun w o hw ho => by rw [st_n (by omega)]; exact R.like w o hw ho,
    log := by
      obtain ⟨c, h1, h2, h3, h4⟩ := R.log
      exact ⟨c, h1, by rw [st_n (by omega)]; exact h2, h3, fun a r h => by rw [st_n (by omega)]; exact h4 a r h⟩,
    pl := fun q hq => by
      by_cases h : q = p
      · subst h; rw [st_at]; simp
      · rw [st_at' h]; simp only [h, if_false]; exact R.pl q hq }
theorem SC.s_tp (R : SC σ B v e) (p : Nat) (x : Nat) : SC (st σ (B + 12) p (nI x)) B { v with tp := fun q => if q = p then x else v.tp q } e := {
    n := by rw [st_n (by omega)]; exact R.n,
    k := by rw [st_n (by omega)]; exact R.k,
    texts := by rw [st_n (by omega)]; exact R.texts,
    hour := by rw [st_n (by omega)]; exact R.hour,
    night := by rw [st_n (by omega)]; exact R.night,
    fog := by rw [st_n (by omega)]; exact R.fog,
    mist := by rw [st_n (by omega)]; exact R.mist,
    seed := by rw [st_n (by omega)]; exact R.seed,
    burn := by rw [st_n (by omega)]; exact R.burn,
    oil := fun p hp => by rw [st_n (by omega)]; exact R.oil p hp,
    own := fun p hp => by rw [st_n (by omega)]; exact R.own p hp,
    dark := fun p hp => by rw [st_n (by omega)]; exact R.dark p hp,
    way := fun p hp => by rw [st_n (by omega)]; exact R.way p hp,
    pl := fun p hp => by rw [st_n (by omega)]; exact R.pl p hp,
    hd := fun p hp => by rw [st_n (by omega)]; exact R.hd p hp,
    lt := fun p hp => by rw [st_n (by omega)]; exact R.lt p hp,
    like := fun w o hw ho => by rw [st_n (by omega)]; exact R.like w o hw ho,
    log := by
      obtain ⟨c, h1, h2, h3, h4⟩ := R.log
      exact ⟨c, h1, by rw [st_n (by omega)]; exact h2, h3, fun a r h => by rw [st_n (by omega)]; exact h4 a r h⟩,
    tp := fun q hq => by
      by_cases h : q = p
      · subst h; rw [st_at]; simp
      · rw [st_at' h]; simp only [h, if_false]; exact R.tp q hq }
theorem SC.s_hd (R : SC σ B v e) (p : Nat) (x : Option Nat) : SC (st σ (B + 14) p (oI x)) B { v with hd := fun q => if q = p then x else v.hd q } e := {
    n := by rw [st_n (by omega)]; exact R.n,
    k := by rw [st_n (by omega)]; exact R.k,
    texts := by rw [st_n (by omega)]; exact R.texts,
    hour := by rw [st_n (by omega)]; exact R.hour,
    night := by rw [st_n (by omega)]; exact R.night,
    fog := by rw [st_n (by omega)]; exact R.fog,
    mist := by rw [st_n (by omega)]; exact R.mist,
    seed := by rw [st_n (by omega)]; exact R.seed,
    burn := by rw [st_n (by omega)]; exact R.burn,
    oil := fun p hp => by rw [st_n (by omega)]; exact R.oil p hp,
    own := fun p hp => by rw [st_n (by omega)]; exact R.own p hp,
    dark := fun p hp => by rw [st_n (by omega)]; exact R.dark p hp,
    way := fun p hp => by rw [st_n (by omega)]; exact R.way p hp,
    pl := fun p hp => by rw [st_n (by omega)]; exact R.pl p hp,
    tp := fun p hp => by rw [st_n (by omega)]; exact R.tp p hp,
    lt := fun p hp => by rw [st_n (by omega)]; exact R.lt p hp,
    like := fun w o hw ho => by rw [st_n (by omega)]; exact R.like w o hw ho,
    log := by
      obtain ⟨c, h1, h2, h3, h4⟩ := R.log
      exact ⟨c, h1, by rw [st_n (by omega)]; exact h2, h3, fun a r h => by rw [st_n (by omega)]; exact h4 a r h⟩,
    hd := fun q hq => by
      by_cases h : q = p
      · subst h; rw [st_at]; simp
      · rw [st_at' h]; simp only [h, if_false]; exact R.hd q hq }
theorem SC.s_lt (R : SC σ B v e) (p : Nat) (x : Nat) : SC (st σ (B + 16) p (nI x)) B { v with lt := fun q => if q = p then x else v.lt q } e := {
    n := by rw [st_n (by omega)]; exact R.n,
    k := by rw [st_n (by omega)]; exact R.k,
    texts := by rw [st_n (by omega)]; exact R.texts,
    hour := by rw [st_n (by omega)]; exact R.hour,
    night := by rw [st_n (by omega)]; exact R.night,
    fog := by rw [st_n (by omega)]; exact R.fog,
    mist := by rw [st_n (by omega)]; exact R.mist,
    seed := by rw [st_n (by omega)]; exact R.seed,
    burn := by rw [st_n (by omega)]; exact R.burn,
    oil := fun p hp => by rw [st_n (by omega)]; exact R.oil p hp,
    own := fun p hp => by rw [st_n (by omega)]; exact R.own p hp,
    dark := fun p hp => by rw [st_n (by omega)]; exact R.dark p hp,
    way := fun p hp => by rw [st_n (by omega)]; exact R.way p hp,
    pl := fun p hp => by rw [st_n (by omega)]; exact R.pl p hp,
    tp := fun p hp => by rw [st_n (by omega)]; exact R.tp p hp,
    hd := fun p hp => by rw [st_n (by omega)]; exact R.hd p hp,
    like := fun w o hw ho => by rw [st_n (by omega)]; exact R.like w o hw ho,
    log := by
      obtain ⟨c, h1, h2, h3, h4⟩ := R.log
      exact ⟨c, h1, by rw [st_n (by omega)]; exact h2, h3, fun a r h => by rw [st_n (by omega)]; exact h4 a r h⟩,
    lt := fun q hq => by
      by_cases h : q = p
      · subst h; rw [st_at]; simp
      · rw [st_at' h]; simp only [h, if_false]; exact R.lt q hq }
theorem SC.s_like (W : WF v) (R : SC σ B v e) {w o : Nat} (hw0 : w < v.k) (ho0 : o < v.k) (x : Nat) : SC (st σ (B + 18) (6 * w + o) (nI x)) B { v with like := fun w2 o2 => if w2 = w ∧ o2 = o then x else v.like w2 o2 } e := by
  have h6 := W.k6
  exact {
    n := by rw [st_n (by omega)]; exact R.n,
    k := by rw [st_n (by omega)]; exact R.k,
    texts := by rw [st_n (by omega)]; exact R.texts,
    hour := by rw [st_n (by omega)]; exact R.hour,
    night := by rw [st_n (by omega)]; exact R.night,
    fog := by rw [st_n (by omega)]; exact R.fog,
    mist := by rw [st_n (by omega)]; exact R.mist,
    seed := by rw [st_n (by omega)]; exact R.seed,
    burn := by rw [st_n (by omega)]; exact R.burn,
    oil := fun p hp => by rw [st_n (by omega)]; exact R.oil p hp,
    own := fun p hp => by rw [st_n (by omega)]; exact R.own p hp,
    dark := fun p hp => by rw [st_n (by omega)]; exact R.dark p hp,
    way := fun p hp => by rw [st_n (by omega)]; exact R.way p hp,
    pl := fun p hp => by rw [st_n (by omega)]; exact R.pl p hp,
    tp := fun p hp => by rw [st_n (by omega)]; exact R.tp p hp,
    hd := fun p hp => by rw [st_n (by omega)]; exact R.hd p hp,
    lt := fun p hp => by rw [st_n (by omega)]; exact R.lt p hp,
    log := by
      obtain ⟨c, h1, h2, h3, h4⟩ := R.log
      exact ⟨c, h1, by rw [st_n (by omega)]; exact h2, h3, fun a r h => by rw [st_n (by omega)]; exact h4 a r h⟩,
    like := fun w2 o2 hw ho => by
      by_cases h : w2 = w ∧ o2 = o
      · obtain ⟨rfl, rfl⟩ := h; rw [st_at]; simp
      · rw [st_at' (fun z => h (by have : w2 < v.k := hw; have : o2 < v.k := ho; omega))]; simp only [h, if_false]; exact R.like w2 o2 hw ho }
variable {a : Nat → Int32}
theorem SM.s_texts (W : WF v) (M : SM a v) (x : Nat) : SM (upd a 0 (nI x)) { v with texts := x } := by
  have h9 := W.n9
  have h6 := W.k6
  have h60 := W.log
  exact {
    n := by rw [upd, if_neg (by omega)]; exact M.n,
    k := by rw [upd, if_neg (by omega)]; exact M.k,
    hour := by rw [upd, if_neg (by omega)]; exact M.hour,
    night := by rw [upd, if_neg (by omega)]; exact M.night,
    fog := by rw [upd, if_neg (by omega)]; exact M.fog,
    mist := by rw [upd, if_neg (by omega)]; exact M.mist,
    logs := by rw [upd, if_neg (by omega)]; exact M.logs,
    seed := by rw [upd, if_neg (by omega)]; exact M.seed,
    oil := fun q hq => by have : q < v.n := hq; rw [upd, if_neg (by omega)]; exact M.oil q hq,
    burn := fun q hq => by have : q < v.n := hq; rw [upd, if_neg (by omega)]; exact M.burn q hq,
    own := fun q hq => by have : q < v.n := hq; rw [upd, if_neg (by omega)]; exact M.own q hq,
    dark := fun q hq => by have : q < v.n := hq; rw [upd, if_neg (by omega)]; exact M.dark q hq,
    pl := fun q hq => by have : q < v.k := hq; rw [upd, if_neg (by omega)]; exact M.pl q hq,
    tp := fun q hq => by have : q < v.k := hq; rw [upd, if_neg (by omega)]; exact M.tp q hq,
    hd := fun q hq => by have : q < v.k := hq; rw [upd, if_neg (by omega)]; exact M.hd q hq,
    lt := fun q hq => by have : q < v.k := hq; rw [upd, if_neg (by omega)]; exact M.lt q hq,
    way := fun q r hq hr => by have : q < v.n := hq; have : r < v.n := hr; rw [upd, if_neg (by omega)]; exact M.way q r hq hr,
    like := fun q r hq hr => by have : q < v.k := hq; have : r < v.k := hr; rw [upd, if_neg (by omega)]; exact M.like q r hq hr,
    log := fun i r hi => by
      have hi2 := (List.getElem?_eq_some_iff.mp hi).1
      obtain ⟨h1, h2, h3, h4, h5⟩ := M.log i r hi
      refine ⟨?_, ?_, ?_, ?_, ?_⟩ <;> (rw [upd, if_neg (by omega)]; assumption),
    texts := by simp [upd] }
theorem SM.s_hour (W : WF v) (M : SM a v) (x : Nat) : SM (upd a 5 (nI x)) { v with hour := x } := by
  have h9 := W.n9
  have h6 := W.k6
  have h60 := W.log
  exact {
    texts := by rw [upd, if_neg (by omega)]; exact M.texts,
    n := by rw [upd, if_neg (by omega)]; exact M.n,
    k := by rw [upd, if_neg (by omega)]; exact M.k,
    night := by rw [upd, if_neg (by omega)]; exact M.night,
    fog := by rw [upd, if_neg (by omega)]; exact M.fog,
    mist := by rw [upd, if_neg (by omega)]; exact M.mist,
    logs := by rw [upd, if_neg (by omega)]; exact M.logs,
    seed := by rw [upd, if_neg (by omega)]; exact M.seed,
    oil := fun q hq => by have : q < v.n := hq; rw [upd, if_neg (by omega)]; exact M.oil q hq,
    burn := fun q hq => by have : q < v.n := hq; rw [upd, if_neg (by omega)]; exact M.burn q hq,
    own := fun q hq => by have : q < v.n := hq; rw [upd, if_neg (by omega)]; exact M.own q hq,
    dark := fun q hq => by have : q < v.n := hq; rw [upd, if_neg (by omega)]; exact M.dark q hq,
    pl := fun q hq => by have : q < v.k := hq; rw [upd, if_neg (by omega)]; exact M.pl q hq,
    tp := fun q hq => by have : q < v.k := hq; rw [upd, if_neg (by omega)]; exact M.tp q hq,
    hd := fun q hq => by have : q < v.k := hq; rw [upd, if_neg (by omega)]; exact M.hd q hq,
    lt := fun q hq => by have : q < v.k := hq; rw [upd, if_neg (by omega)]; exact M.lt q hq,
    way := fun q r hq hr => by have : q < v.n := hq; have : r < v.n := hr; rw [upd, if_neg (by omega)]; exact M.way q r hq hr,
    like := fun q r hq hr => by have : q < v.k := hq; have : r < v.k := hr; rw [upd, if_neg (by omega)]; exact M.like q r hq hr,
    log := fun i r hi => by
      have hi2 := (List.getElem?_eq_some_iff.mp hi).1
      obtain ⟨h1, h2, h3, h4, h5⟩ := M.log i r hi
      refine ⟨?_, ?_, ?_, ?_, ?_⟩ <;> (rw [upd, if_neg (by omega)]; assumption),
    hour := by simp [upd] }
theorem SM.s_night (W : WF v) (M : SM a v) (x : Nat) : SM (upd a 6 (nI x)) { v with night := x } := by
  have h9 := W.n9
  have h6 := W.k6
  have h60 := W.log
  exact {
    texts := by rw [upd, if_neg (by omega)]; exact M.texts,
    n := by rw [upd, if_neg (by omega)]; exact M.n,
    k := by rw [upd, if_neg (by omega)]; exact M.k,
    hour := by rw [upd, if_neg (by omega)]; exact M.hour,
    fog := by rw [upd, if_neg (by omega)]; exact M.fog,
    mist := by rw [upd, if_neg (by omega)]; exact M.mist,
    logs := by rw [upd, if_neg (by omega)]; exact M.logs,
    seed := by rw [upd, if_neg (by omega)]; exact M.seed,
    oil := fun q hq => by have : q < v.n := hq; rw [upd, if_neg (by omega)]; exact M.oil q hq,
    burn := fun q hq => by have : q < v.n := hq; rw [upd, if_neg (by omega)]; exact M.burn q hq,
    own := fun q hq => by have : q < v.n := hq; rw [upd, if_neg (by omega)]; exact M.own q hq,
    dark := fun q hq => by have : q < v.n := hq; rw [upd, if_neg (by omega)]; exact M.dark q hq,
    pl := fun q hq => by have : q < v.k := hq; rw [upd, if_neg (by omega)]; exact M.pl q hq,
    tp := fun q hq => by have : q < v.k := hq; rw [upd, if_neg (by omega)]; exact M.tp q hq,
    hd := fun q hq => by have : q < v.k := hq; rw [upd, if_neg (by omega)]; exact M.hd q hq,
    lt := fun q hq => by have : q < v.k := hq; rw [upd, if_neg (by omega)]; exact M.lt q hq,
    way := fun q r hq hr => by have : q < v.n := hq; have : r < v.n := hr; rw [upd, if_neg (by omega)]; exact M.way q r hq hr,
    like := fun q r hq hr => by have : q < v.k := hq; have : r < v.k := hr; rw [upd, if_neg (by omega)]; exact M.like q r hq hr,
    log := fun i r hi => by
      have hi2 := (List.getElem?_eq_some_iff.mp hi).1
      obtain ⟨h1, h2, h3, h4, h5⟩ := M.log i r hi
      refine ⟨?_, ?_, ?_, ?_, ?_⟩ <;> (rw [upd, if_neg (by omega)]; assumption),
    night := by simp [upd] }
theorem SM.s_fog (W : WF v) (M : SM a v) (x : Nat) : SM (upd a 7 (nI x)) { v with fog := x } := by
  have h9 := W.n9
  have h6 := W.k6
  have h60 := W.log
  exact {
    texts := by rw [upd, if_neg (by omega)]; exact M.texts,
    n := by rw [upd, if_neg (by omega)]; exact M.n,
    k := by rw [upd, if_neg (by omega)]; exact M.k,
    hour := by rw [upd, if_neg (by omega)]; exact M.hour,
    night := by rw [upd, if_neg (by omega)]; exact M.night,
    mist := by rw [upd, if_neg (by omega)]; exact M.mist,
    logs := by rw [upd, if_neg (by omega)]; exact M.logs,
    seed := by rw [upd, if_neg (by omega)]; exact M.seed,
    oil := fun q hq => by have : q < v.n := hq; rw [upd, if_neg (by omega)]; exact M.oil q hq,
    burn := fun q hq => by have : q < v.n := hq; rw [upd, if_neg (by omega)]; exact M.burn q hq,
    own := fun q hq => by have : q < v.n := hq; rw [upd, if_neg (by omega)]; exact M.own q hq,
    dark := fun q hq => by have : q < v.n := hq; rw [upd, if_neg (by omega)]; exact M.dark q hq,
    pl := fun q hq => by have : q < v.k := hq; rw [upd, if_neg (by omega)]; exact M.pl q hq,
    tp := fun q hq => by have : q < v.k := hq; rw [upd, if_neg (by omega)]; exact M.tp q hq,
    hd := fun q hq => by have : q < v.k := hq; rw [upd, if_neg (by omega)]; exact M.hd q hq,
    lt := fun q hq => by have : q < v.k := hq; rw [upd, if_neg (by omega)]; exact M.lt q hq,
    way := fun q r hq hr => by have : q < v.n := hq; have : r < v.n := hr; rw [upd, if_neg (by omega)]; exact M.way q r hq hr,
    like := fun q r hq hr => by have : q < v.k := hq; have : r < v.k := hr; rw [upd, if_neg (by omega)]; exact M.like q r hq hr,
    log := fun i r hi => by
      have hi2 := (List.getElem?_eq_some_iff.mp hi).1
      obtain ⟨h1, h2, h3, h4, h5⟩ := M.log i r hi
      refine ⟨?_, ?_, ?_, ?_, ?_⟩ <;> (rw [upd, if_neg (by omega)]; assumption),
    fog := by simp [upd] }
theorem SM.s_mist (W : WF v) (M : SM a v) (x : Bool) : SM (upd a 8 (b2i x)) { v with mist := x } := by
  have h9 := W.n9
  have h6 := W.k6
  have h60 := W.log
  exact {
    texts := by rw [upd, if_neg (by omega)]; exact M.texts,
    n := by rw [upd, if_neg (by omega)]; exact M.n,
    k := by rw [upd, if_neg (by omega)]; exact M.k,
    hour := by rw [upd, if_neg (by omega)]; exact M.hour,
    night := by rw [upd, if_neg (by omega)]; exact M.night,
    fog := by rw [upd, if_neg (by omega)]; exact M.fog,
    logs := by rw [upd, if_neg (by omega)]; exact M.logs,
    seed := by rw [upd, if_neg (by omega)]; exact M.seed,
    oil := fun q hq => by have : q < v.n := hq; rw [upd, if_neg (by omega)]; exact M.oil q hq,
    burn := fun q hq => by have : q < v.n := hq; rw [upd, if_neg (by omega)]; exact M.burn q hq,
    own := fun q hq => by have : q < v.n := hq; rw [upd, if_neg (by omega)]; exact M.own q hq,
    dark := fun q hq => by have : q < v.n := hq; rw [upd, if_neg (by omega)]; exact M.dark q hq,
    pl := fun q hq => by have : q < v.k := hq; rw [upd, if_neg (by omega)]; exact M.pl q hq,
    tp := fun q hq => by have : q < v.k := hq; rw [upd, if_neg (by omega)]; exact M.tp q hq,
    hd := fun q hq => by have : q < v.k := hq; rw [upd, if_neg (by omega)]; exact M.hd q hq,
    lt := fun q hq => by have : q < v.k := hq; rw [upd, if_neg (by omega)]; exact M.lt q hq,
    way := fun q r hq hr => by have : q < v.n := hq; have : r < v.n := hr; rw [upd, if_neg (by omega)]; exact M.way q r hq hr,
    like := fun q r hq hr => by have : q < v.k := hq; have : r < v.k := hr; rw [upd, if_neg (by omega)]; exact M.like q r hq hr,
    log := fun i r hi => by
      have hi2 := (List.getElem?_eq_some_iff.mp hi).1
      obtain ⟨h1, h2, h3, h4, h5⟩ := M.log i r hi
      refine ⟨?_, ?_, ?_, ?_, ?_⟩ <;> (rw [upd, if_neg (by omega)]; assumption),
    mist := by simp [upd] }
theorem SM.s_seed (W : WF v) (M : SM a v) (x : Int32) : SM (upd a 10 (x)) { v with seed := x } := by
  have h9 := W.n9
  have h6 := W.k6
  have h60 := W.log
  exact {
    texts := by rw [upd, if_neg (by omega)]; exact M.texts,
    n := by rw [upd, if_neg (by omega)]; exact M.n,
    k := by rw [upd, if_neg (by omega)]; exact M.k,
    hour := by rw [upd, if_neg (by omega)]; exact M.hour,
    night := by rw [upd, if_neg (by omega)]; exact M.night,
    fog := by rw [upd, if_neg (by omega)]; exact M.fog,
    mist := by rw [upd, if_neg (by omega)]; exact M.mist,
    logs := by rw [upd, if_neg (by omega)]; exact M.logs,
    oil := fun q hq => by have : q < v.n := hq; rw [upd, if_neg (by omega)]; exact M.oil q hq,
    burn := fun q hq => by have : q < v.n := hq; rw [upd, if_neg (by omega)]; exact M.burn q hq,
    own := fun q hq => by have : q < v.n := hq; rw [upd, if_neg (by omega)]; exact M.own q hq,
    dark := fun q hq => by have : q < v.n := hq; rw [upd, if_neg (by omega)]; exact M.dark q hq,
    pl := fun q hq => by have : q < v.k := hq; rw [upd, if_neg (by omega)]; exact M.pl q hq,
    tp := fun q hq => by have : q < v.k := hq; rw [upd, if_neg (by omega)]; exact M.tp q hq,
    hd := fun q hq => by have : q < v.k := hq; rw [upd, if_neg (by omega)]; exact M.hd q hq,
    lt := fun q hq => by have : q < v.k := hq; rw [upd, if_neg (by omega)]; exact M.lt q hq,
    way := fun q r hq hr => by have : q < v.n := hq; have : r < v.n := hr; rw [upd, if_neg (by omega)]; exact M.way q r hq hr,
    like := fun q r hq hr => by have : q < v.k := hq; have : r < v.k := hr; rw [upd, if_neg (by omega)]; exact M.like q r hq hr,
    log := fun i r hi => by
      have hi2 := (List.getElem?_eq_some_iff.mp hi).1
      obtain ⟨h1, h2, h3, h4, h5⟩ := M.log i r hi
      refine ⟨?_, ?_, ?_, ?_, ?_⟩ <;> (rw [upd, if_neg (by omega)]; assumption),
    seed := by simp [upd] }
theorem SM.s_oil (W : WF v) (M : SM a v) {p : Nat} (hp : p < v.n) (x : Nat) : SM (upd a (11 + 4 * p) (nI x)) { v with oil := fun q => if q = p then x else v.oil q } := by
  have h9 := W.n9
  have h6 := W.k6
  have h60 := W.log
  exact {
    texts := by rw [upd, if_neg (by omega)]; exact M.texts,
    n := by rw [upd, if_neg (by omega)]; exact M.n,
    k := by rw [upd, if_neg (by omega)]; exact M.k,
    hour := by rw [upd, if_neg (by omega)]; exact M.hour,
    night := by rw [upd, if_neg (by omega)]; exact M.night,
    fog := by rw [upd, if_neg (by omega)]; exact M.fog,
    mist := by rw [upd, if_neg (by omega)]; exact M.mist,
    logs := by rw [upd, if_neg (by omega)]; exact M.logs,
    seed := by rw [upd, if_neg (by omega)]; exact M.seed,
    burn := fun q hq => by have : q < v.n := hq; rw [upd, if_neg (by omega)]; exact M.burn q hq,
    own := fun q hq => by have : q < v.n := hq; rw [upd, if_neg (by omega)]; exact M.own q hq,
    dark := fun q hq => by have : q < v.n := hq; rw [upd, if_neg (by omega)]; exact M.dark q hq,
    pl := fun q hq => by have : q < v.k := hq; rw [upd, if_neg (by omega)]; exact M.pl q hq,
    tp := fun q hq => by have : q < v.k := hq; rw [upd, if_neg (by omega)]; exact M.tp q hq,
    hd := fun q hq => by have : q < v.k := hq; rw [upd, if_neg (by omega)]; exact M.hd q hq,
    lt := fun q hq => by have : q < v.k := hq; rw [upd, if_neg (by omega)]; exact M.lt q hq,
    way := fun q r hq hr => by have : q < v.n := hq; have : r < v.n := hr; rw [upd, if_neg (by omega)]; exact M.way q r hq hr,
    like := fun q r hq hr => by have : q < v.k := hq; have : r < v.k := hr; rw [upd, if_neg (by omega)]; exact M.like q r hq hr,
    log := fun i r hi => by
      have hi2 := (List.getElem?_eq_some_iff.mp hi).1
      obtain ⟨h1, h2, h3, h4, h5⟩ := M.log i r hi
      refine ⟨?_, ?_, ?_, ?_, ?_⟩ <;> (rw [upd, if_neg (by omega)]; assumption),
    oil := fun q hq => by
      have : q < v.n := hq
      by_cases h : q = p
      · subst h; simp [upd]
      · rw [upd, if_neg (by omega)]; simp only [h, if_false]; exact M.oil q hq }
theorem SM.s_burn (W : WF v) (M : SM a v) {p : Nat} (hp : p < v.n) (x : Bool) : SM (upd a (11 + 4 * p + 1) (b2i x)) { v with burn := fun q => if q = p then x else v.burn q } := by
  have h9 := W.n9
  have h6 := W.k6
  have h60 := W.log
  exact {
    texts := by rw [upd, if_neg (by omega)]; exact M.texts,
    n := by rw [upd, if_neg (by omega)]; exact M.n,
    k := by rw [upd, if_neg (by omega)]; exact M.k,
    hour := by rw [upd, if_neg (by omega)]; exact M.hour,
    night := by rw [upd, if_neg (by omega)]; exact M.night,
    fog := by rw [upd, if_neg (by omega)]; exact M.fog,
    mist := by rw [upd, if_neg (by omega)]; exact M.mist,
    logs := by rw [upd, if_neg (by omega)]; exact M.logs,
    seed := by rw [upd, if_neg (by omega)]; exact M.seed,
    oil := fun q hq => by have : q < v.n := hq; rw [upd, if_neg (by omega)]; exact M.oil q hq,
    own := fun q hq => by have : q < v.n := hq; rw [upd, if_neg (by omega)]; exact M.own q hq,
    dark := fun q hq => by have : q < v.n := hq; rw [upd, if_neg (by omega)]; exact M.dark q hq,
    pl := fun q hq => by have : q < v.k := hq; rw [upd, if_neg (by omega)]; exact M.pl q hq,
    tp := fun q hq => by have : q < v.k := hq; rw [upd, if_neg (by omega)]; exact M.tp q hq,
    hd := fun q hq => by have : q < v.k := hq; rw [upd, if_neg (by omega)]; exact M.hd q hq,
    lt := fun q hq => by have : q < v.k := hq; rw [upd, if_neg (by omega)]; exact M.lt q hq,
    way := fun q r hq hr => by have : q < v.n := hq; have : r < v.n := hr; rw [upd, if_neg (by omega)]; exact M.way q r hq hr,
    like := fun q r hq hr => by have : q < v.k := hq; have : r < v.k := hr; rw [upd, if_neg (by omega)]; exact M.like q r hq hr,
    log := fun i r hi => by
      have hi2 := (List.getElem?_eq_some_iff.mp hi).1
      obtain ⟨h1, h2, h3, h4, h5⟩ := M.log i r hi
      refine ⟨?_, ?_, ?_, ?_, ?_⟩ <;> (rw [upd, if_neg (by omega)]; assumption),
    burn := fun q hq => by
      have : q < v.n := hq
      by_cases h : q = p
      · subst h; simp [upd]
      · rw [upd, if_neg (by omega)]; simp only [h, if_false]; exact M.burn q hq }
theorem SM.s_own (W : WF v) (M : SM a v) {p : Nat} (hp : p < v.n) (x : Option Nat) : SM (upd a (11 + 4 * p + 2) (oI x)) { v with own := fun q => if q = p then x else v.own q } := by
  have h9 := W.n9
  have h6 := W.k6
  have h60 := W.log
  exact {
    texts := by rw [upd, if_neg (by omega)]; exact M.texts,
    n := by rw [upd, if_neg (by omega)]; exact M.n,
    k := by rw [upd, if_neg (by omega)]; exact M.k,
    hour := by rw [upd, if_neg (by omega)]; exact M.hour,
    night := by rw [upd, if_neg (by omega)]; exact M.night,
    fog := by rw [upd, if_neg (by omega)]; exact M.fog,
    mist := by rw [upd, if_neg (by omega)]; exact M.mist,
    logs := by rw [upd, if_neg (by omega)]; exact M.logs,
    seed := by rw [upd, if_neg (by omega)]; exact M.seed,
    oil := fun q hq => by have : q < v.n := hq; rw [upd, if_neg (by omega)]; exact M.oil q hq,
    burn := fun q hq => by have : q < v.n := hq; rw [upd, if_neg (by omega)]; exact M.burn q hq,
    dark := fun q hq => by have : q < v.n := hq; rw [upd, if_neg (by omega)]; exact M.dark q hq,
    pl := fun q hq => by have : q < v.k := hq; rw [upd, if_neg (by omega)]; exact M.pl q hq,
    tp := fun q hq => by have : q < v.k := hq; rw [upd, if_neg (by omega)]; exact M.tp q hq,
    hd := fun q hq => by have : q < v.k := hq; rw [upd, if_neg (by omega)]; exact M.hd q hq,
    lt := fun q hq => by have : q < v.k := hq; rw [upd, if_neg (by omega)]; exact M.lt q hq,
    way := fun q r hq hr => by have : q < v.n := hq; have : r < v.n := hr; rw [upd, if_neg (by omega)]; exact M.way q r hq hr,
    like := fun q r hq hr => by have : q < v.k := hq; have : r < v.k := hr; rw [upd, if_neg (by omega)]; exact M.like q r hq hr,
    log := fun i r hi => by
      have hi2 := (List.getElem?_eq_some_iff.mp hi).1
      obtain ⟨h1, h2, h3, h4, h5⟩ := M.log i r hi
      refine ⟨?_, ?_, ?_, ?_, ?_⟩ <;> (rw [upd, if_neg (by omega)]; assumption),
    own := fun q hq => by
      have : q < v.n := hq
      by_cases h : q = p
      · subst h; simp [upd]
      · rw [upd, if_neg (by omega)]; simp only [h, if_false]; exact M.own q hq }
theorem SM.s_dark (W : WF v) (M : SM a v) {p : Nat} (hp : p < v.n) (x : Nat) : SM (upd a (11 + 4 * p + 3) (nI x)) { v with dark := fun q => if q = p then x else v.dark q } := by
  have h9 := W.n9
  have h6 := W.k6
  have h60 := W.log
  exact {
    texts := by rw [upd, if_neg (by omega)]; exact M.texts,
    n := by rw [upd, if_neg (by omega)]; exact M.n,
    k := by rw [upd, if_neg (by omega)]; exact M.k,
    hour := by rw [upd, if_neg (by omega)]; exact M.hour,
    night := by rw [upd, if_neg (by omega)]; exact M.night,
    fog := by rw [upd, if_neg (by omega)]; exact M.fog,
    mist := by rw [upd, if_neg (by omega)]; exact M.mist,
    logs := by rw [upd, if_neg (by omega)]; exact M.logs,
    seed := by rw [upd, if_neg (by omega)]; exact M.seed,
    oil := fun q hq => by have : q < v.n := hq; rw [upd, if_neg (by omega)]; exact M.oil q hq,
    burn := fun q hq => by have : q < v.n := hq; rw [upd, if_neg (by omega)]; exact M.burn q hq,
    own := fun q hq => by have : q < v.n := hq; rw [upd, if_neg (by omega)]; exact M.own q hq,
    pl := fun q hq => by have : q < v.k := hq; rw [upd, if_neg (by omega)]; exact M.pl q hq,
    tp := fun q hq => by have : q < v.k := hq; rw [upd, if_neg (by omega)]; exact M.tp q hq,
    hd := fun q hq => by have : q < v.k := hq; rw [upd, if_neg (by omega)]; exact M.hd q hq,
    lt := fun q hq => by have : q < v.k := hq; rw [upd, if_neg (by omega)]; exact M.lt q hq,
    way := fun q r hq hr => by have : q < v.n := hq; have : r < v.n := hr; rw [upd, if_neg (by omega)]; exact M.way q r hq hr,
    like := fun q r hq hr => by have : q < v.k := hq; have : r < v.k := hr; rw [upd, if_neg (by omega)]; exact M.like q r hq hr,
    log := fun i r hi => by
      have hi2 := (List.getElem?_eq_some_iff.mp hi).1
      obtain ⟨h1, h2, h3, h4, h5⟩ := M.log i r hi
      refine ⟨?_, ?_, ?_, ?_, ?_⟩ <;> (rw [upd, if_neg (by omega)]; assumption),
    dark := fun q hq => by
      have : q < v.n := hq
      by_cases h : q = p
      · subst h; simp [upd]
      · rw [upd, if_neg (by omega)]; simp only [h, if_false]; exact M.dark q hq }
theorem SM.s_pl (W : WF v) (M : SM a v) {p : Nat} (hp : p < v.k) (x : Nat) : SM (upd a (128 + 4 * p) (nI x)) { v with pl := fun q => if q = p then x else v.pl q } := by
  have h9 := W.n9
  have h6 := W.k6
  have h60 := W.log
  exact {
    texts := by rw [upd, if_neg (by omega)]; exact M.texts,
    n := by rw [upd, if_neg (by omega)]; exact M.n,
    k := by rw [upd, if_neg (by omega)]; exact M.k,
    hour := by rw [upd, if_neg (by omega)]; exact M.hour,
    night := by rw [upd, if_neg (by omega)]; exact M.night,
    fog := by rw [upd, if_neg (by omega)]; exact M.fog,
    mist := by rw [upd, if_neg (by omega)]; exact M.mist,
    logs := by rw [upd, if_neg (by omega)]; exact M.logs,
    seed := by rw [upd, if_neg (by omega)]; exact M.seed,
    oil := fun q hq => by have : q < v.n := hq; rw [upd, if_neg (by omega)]; exact M.oil q hq,
    burn := fun q hq => by have : q < v.n := hq; rw [upd, if_neg (by omega)]; exact M.burn q hq,
    own := fun q hq => by have : q < v.n := hq; rw [upd, if_neg (by omega)]; exact M.own q hq,
    dark := fun q hq => by have : q < v.n := hq; rw [upd, if_neg (by omega)]; exact M.dark q hq,
    tp := fun q hq => by have : q < v.k := hq; rw [upd, if_neg (by omega)]; exact M.tp q hq,
    hd := fun q hq => by have : q < v.k := hq; rw [upd, if_neg (by omega)]; exact M.hd q hq,
    lt := fun q hq => by have : q < v.k := hq; rw [upd, if_neg (by omega)]; exact M.lt q hq,
    way := fun q r hq hr => by have : q < v.n := hq; have : r < v.n := hr; rw [upd, if_neg (by omega)]; exact M.way q r hq hr,
    like := fun q r hq hr => by have : q < v.k := hq; have : r < v.k := hr; rw [upd, if_neg (by omega)]; exact M.like q r hq hr,
    log := fun i r hi => by
      have hi2 := (List.getElem?_eq_some_iff.mp hi).1
      obtain ⟨h1, h2, h3, h4, h5⟩ := M.log i r hi
      refine ⟨?_, ?_, ?_, ?_, ?_⟩ <;> (rw [upd, if_neg (by omega)]; assumption),
    pl := fun q hq => by
      have : q < v.k := hq
      by_cases h : q = p
      · subst h; simp [upd]
      · rw [upd, if_neg (by omega)]; simp only [h, if_false]; exact M.pl q hq }
theorem SM.s_tp (W : WF v) (M : SM a v) {p : Nat} (hp : p < v.k) (x : Nat) : SM (upd a (128 + 4 * p + 1) (nI x)) { v with tp := fun q => if q = p then x else v.tp q } := by
  have h9 := W.n9
  have h6 := W.k6
  have h60 := W.log
  exact {
    texts := by rw [upd, if_neg (by omega)]; exact M.texts,
    n := by rw [upd, if_neg (by omega)]; exact M.n,
    k := by rw [upd, if_neg (by omega)]; exact M.k,
    hour := by rw [upd, if_neg (by omega)]; exact M.hour,
    night := by rw [upd, if_neg (by omega)]; exact M.night,
    fog := by rw [upd, if_neg (by omega)]; exact M.fog,
    mist := by rw [upd, if_neg (by omega)]; exact M.mist,
    logs := by rw [upd, if_neg (by omega)]; exact M.logs,
    seed := by rw [upd, if_neg (by omega)]; exact M.seed,
    oil := fun q hq => by have : q < v.n := hq; rw [upd, if_neg (by omega)]; exact M.oil q hq,
    burn := fun q hq => by have : q < v.n := hq; rw [upd, if_neg (by omega)]; exact M.burn q hq,
    own := fun q hq => by have : q < v.n := hq; rw [upd, if_neg (by omega)]; exact M.own q hq,
    dark := fun q hq => by have : q < v.n := hq; rw [upd, if_neg (by omega)]; exact M.dark q hq,
    pl := fun q hq => by have : q < v.k := hq; rw [upd, if_neg (by omega)]; exact M.pl q hq,
    hd := fun q hq => by have : q < v.k := hq; rw [upd, if_neg (by omega)]; exact M.hd q hq,
    lt := fun q hq => by have : q < v.k := hq; rw [upd, if_neg (by omega)]; exact M.lt q hq,
    way := fun q r hq hr => by have : q < v.n := hq; have : r < v.n := hr; rw [upd, if_neg (by omega)]; exact M.way q r hq hr,
    like := fun q r hq hr => by have : q < v.k := hq; have : r < v.k := hr; rw [upd, if_neg (by omega)]; exact M.like q r hq hr,
    log := fun i r hi => by
      have hi2 := (List.getElem?_eq_some_iff.mp hi).1
      obtain ⟨h1, h2, h3, h4, h5⟩ := M.log i r hi
      refine ⟨?_, ?_, ?_, ?_, ?_⟩ <;> (rw [upd, if_neg (by omega)]; assumption),
    tp := fun q hq => by
      have : q < v.k := hq
      by_cases h : q = p
      · subst h; simp [upd]
      · rw [upd, if_neg (by omega)]; simp only [h, if_false]; exact M.tp q hq }
theorem SM.s_hd (W : WF v) (M : SM a v) {p : Nat} (hp : p < v.k) (x : Option Nat) : SM (upd a (128 + 4 * p + 2) (oI x)) { v with hd := fun q => if q = p then x else v.hd q } := by
  have h9 := W.n9
  have h6 := W.k6
  have h60 := W.log
  exact {
    texts := by rw [upd, if_neg (by omega)]; exact M.texts,
    n := by rw [upd, if_neg (by omega)]; exact M.n,
    k := by rw [upd, if_neg (by omega)]; exact M.k,
    hour := by rw [upd, if_neg (by omega)]; exact M.hour,
    night := by rw [upd, if_neg (by omega)]; exact M.night,
    fog := by rw [upd, if_neg (by omega)]; exact M.fog,
    mist := by rw [upd, if_neg (by omega)]; exact M.mist,
    logs := by rw [upd, if_neg (by omega)]; exact M.logs,
    seed := by rw [upd, if_neg (by omega)]; exact M.seed,
    oil := fun q hq => by have : q < v.n := hq; rw [upd, if_neg (by omega)]; exact M.oil q hq,
    burn := fun q hq => by have : q < v.n := hq; rw [upd, if_neg (by omega)]; exact M.burn q hq,
    own := fun q hq => by have : q < v.n := hq; rw [upd, if_neg (by omega)]; exact M.own q hq,
    dark := fun q hq => by have : q < v.n := hq; rw [upd, if_neg (by omega)]; exact M.dark q hq,
    pl := fun q hq => by have : q < v.k := hq; rw [upd, if_neg (by omega)]; exact M.pl q hq,
    tp := fun q hq => by have : q < v.k := hq; rw [upd, if_neg (by omega)]; exact M.tp q hq,
    lt := fun q hq => by have : q < v.k := hq; rw [upd, if_neg (by omega)]; exact M.lt q hq,
    way := fun q r hq hr => by have : q < v.n := hq; have : r < v.n := hr; rw [upd, if_neg (by omega)]; exact M.way q r hq hr,
    like := fun q r hq hr => by have : q < v.k := hq; have : r < v.k := hr; rw [upd, if_neg (by omega)]; exact M.like q r hq hr,
    log := fun i r hi => by
      have hi2 := (List.getElem?_eq_some_iff.mp hi).1
      obtain ⟨h1, h2, h3, h4, h5⟩ := M.log i r hi
      refine ⟨?_, ?_, ?_, ?_, ?_⟩ <;> (rw [upd, if_neg (by omega)]; assumption),
    hd := fun q hq => by
      have : q < v.k := hq
      by_cases h : q = p
      · subst h; simp [upd]
      · rw [upd, if_neg (by omega)]; simp only [h, if_false]; exact M.hd q hq }
theorem SM.s_lt (W : WF v) (M : SM a v) {p : Nat} (hp : p < v.k) (x : Nat) : SM (upd a (128 + 4 * p + 3) (nI x)) { v with lt := fun q => if q = p then x else v.lt q } := by
  have h9 := W.n9
  have h6 := W.k6
  have h60 := W.log
  exact {
    texts := by rw [upd, if_neg (by omega)]; exact M.texts,
    n := by rw [upd, if_neg (by omega)]; exact M.n,
    k := by rw [upd, if_neg (by omega)]; exact M.k,
    hour := by rw [upd, if_neg (by omega)]; exact M.hour,
    night := by rw [upd, if_neg (by omega)]; exact M.night,
    fog := by rw [upd, if_neg (by omega)]; exact M.fog,
    mist := by rw [upd, if_neg (by omega)]; exact M.mist,
    logs := by rw [upd, if_neg (by omega)]; exact M.logs,
    seed := by rw [upd, if_neg (by omega)]; exact M.seed,
    oil := fun q hq => by have : q < v.n := hq; rw [upd, if_neg (by omega)]; exact M.oil q hq,
    burn := fun q hq => by have : q < v.n := hq; rw [upd, if_neg (by omega)]; exact M.burn q hq,
    own := fun q hq => by have : q < v.n := hq; rw [upd, if_neg (by omega)]; exact M.own q hq,
    dark := fun q hq => by have : q < v.n := hq; rw [upd, if_neg (by omega)]; exact M.dark q hq,
    pl := fun q hq => by have : q < v.k := hq; rw [upd, if_neg (by omega)]; exact M.pl q hq,
    tp := fun q hq => by have : q < v.k := hq; rw [upd, if_neg (by omega)]; exact M.tp q hq,
    hd := fun q hq => by have : q < v.k := hq; rw [upd, if_neg (by omega)]; exact M.hd q hq,
    way := fun q r hq hr => by have : q < v.n := hq; have : r < v.n := hr; rw [upd, if_neg (by omega)]; exact M.way q r hq hr,
    like := fun q r hq hr => by have : q < v.k := hq; have : r < v.k := hr; rw [upd, if_neg (by omega)]; exact M.like q r hq hr,
    log := fun i r hi => by
      have hi2 := (List.getElem?_eq_some_iff.mp hi).1
      obtain ⟨h1, h2, h3, h4, h5⟩ := M.log i r hi
      refine ⟨?_, ?_, ?_, ?_, ?_⟩ <;> (rw [upd, if_neg (by omega)]; assumption),
    lt := fun q hq => by
      have : q < v.k := hq
      by_cases h : q = p
      · subst h; simp [upd]
      · rw [upd, if_neg (by omega)]; simp only [h, if_false]; exact M.lt q hq }
theorem SM.s_like (W : WF v) (M : SM a v) {w o : Nat} (hw0 : w < v.k) (ho0 : o < v.k) (x : Nat) : SM (upd a (152 + 6 * w + o) (nI x)) { v with like := fun w2 o2 => if w2 = w ∧ o2 = o then x else v.like w2 o2 } := by
  have h9 := W.n9
  have h6 := W.k6
  have h60 := W.log
  exact {
    texts := by rw [upd, if_neg (by omega)]; exact M.texts,
    n := by rw [upd, if_neg (by omega)]; exact M.n,
    k := by rw [upd, if_neg (by omega)]; exact M.k,
    hour := by rw [upd, if_neg (by omega)]; exact M.hour,
    night := by rw [upd, if_neg (by omega)]; exact M.night,
    fog := by rw [upd, if_neg (by omega)]; exact M.fog,
    mist := by rw [upd, if_neg (by omega)]; exact M.mist,
    logs := by rw [upd, if_neg (by omega)]; exact M.logs,
    seed := by rw [upd, if_neg (by omega)]; exact M.seed,
    oil := fun q hq => by have : q < v.n := hq; rw [upd, if_neg (by omega)]; exact M.oil q hq,
    burn := fun q hq => by have : q < v.n := hq; rw [upd, if_neg (by omega)]; exact M.burn q hq,
    own := fun q hq => by have : q < v.n := hq; rw [upd, if_neg (by omega)]; exact M.own q hq,
    dark := fun q hq => by have : q < v.n := hq; rw [upd, if_neg (by omega)]; exact M.dark q hq,
    pl := fun q hq => by have : q < v.k := hq; rw [upd, if_neg (by omega)]; exact M.pl q hq,
    tp := fun q hq => by have : q < v.k := hq; rw [upd, if_neg (by omega)]; exact M.tp q hq,
    hd := fun q hq => by have : q < v.k := hq; rw [upd, if_neg (by omega)]; exact M.hd q hq,
    lt := fun q hq => by have : q < v.k := hq; rw [upd, if_neg (by omega)]; exact M.lt q hq,
    way := fun q r hq hr => by have : q < v.n := hq; have : r < v.n := hr; rw [upd, if_neg (by omega)]; exact M.way q r hq hr,
    log := fun i r hi => by
      have hi2 := (List.getElem?_eq_some_iff.mp hi).1
      obtain ⟨h1, h2, h3, h4, h5⟩ := M.log i r hi
      refine ⟨?_, ?_, ?_, ?_, ?_⟩ <;> (rw [upd, if_neg (by omega)]; assumption),
    like := fun w2 o2 hw ho => by
      have h1 : w2 < v.k := hw
      have h2 : o2 < v.k := ho
      by_cases h : w2 = w ∧ o2 = o
      · obtain ⟨rfl, rfl⟩ := h; simp [upd]
      · rw [upd, if_neg (fun z => h (by omega))]; simp only [h, if_false]; exact M.like w2 o2 hw ho }
theorem SM.s_oil' (M : SM a v) (h9 : v.n ≤ 9) (h6 : v.k ≤ 6) (h60 : v.log.length ≤ 60) {p : Nat} (hp : p < v.n) (x : Nat) : SM (upd a (11 + 4 * p) (nI x)) { v with oil := fun q => if q = p then x else v.oil q } := by
  exact {
    texts := by rw [upd, if_neg (by omega)]; exact M.texts,
    n := by rw [upd, if_neg (by omega)]; exact M.n,
    k := by rw [upd, if_neg (by omega)]; exact M.k,
    hour := by rw [upd, if_neg (by omega)]; exact M.hour,
    night := by rw [upd, if_neg (by omega)]; exact M.night,
    fog := by rw [upd, if_neg (by omega)]; exact M.fog,
    mist := by rw [upd, if_neg (by omega)]; exact M.mist,
    logs := by rw [upd, if_neg (by omega)]; exact M.logs,
    seed := by rw [upd, if_neg (by omega)]; exact M.seed,
    burn := fun q hq => by have : q < v.n := hq; rw [upd, if_neg (by omega)]; exact M.burn q hq,
    own := fun q hq => by have : q < v.n := hq; rw [upd, if_neg (by omega)]; exact M.own q hq,
    dark := fun q hq => by have : q < v.n := hq; rw [upd, if_neg (by omega)]; exact M.dark q hq,
    pl := fun q hq => by have : q < v.k := hq; rw [upd, if_neg (by omega)]; exact M.pl q hq,
    tp := fun q hq => by have : q < v.k := hq; rw [upd, if_neg (by omega)]; exact M.tp q hq,
    hd := fun q hq => by have : q < v.k := hq; rw [upd, if_neg (by omega)]; exact M.hd q hq,
    lt := fun q hq => by have : q < v.k := hq; rw [upd, if_neg (by omega)]; exact M.lt q hq,
    way := fun q r hq hr => by have : q < v.n := hq; have : r < v.n := hr; rw [upd, if_neg (by omega)]; exact M.way q r hq hr,
    like := fun q r hq hr => by have : q < v.k := hq; have : r < v.k := hr; rw [upd, if_neg (by omega)]; exact M.like q r hq hr,
    log := fun i r hi => by
      have hi2 := (List.getElem?_eq_some_iff.mp hi).1
      obtain ⟨h1, h2, h3, h4, h5⟩ := M.log i r hi
      refine ⟨?_, ?_, ?_, ?_, ?_⟩ <;> (rw [upd, if_neg (by omega)]; assumption),
    oil := fun q hq => by
      have : q < v.n := hq
      by_cases h : q = p
      · subst h; simp [upd]
      · rw [upd, if_neg (by omega)]; simp only [h, if_false]; exact M.oil q hq }
theorem SM.s_burn' (M : SM a v) (h9 : v.n ≤ 9) (h6 : v.k ≤ 6) (h60 : v.log.length ≤ 60) {p : Nat} (hp : p < v.n) (x : Bool) : SM (upd a (11 + 4 * p + 1) (b2i x)) { v with burn := fun q => if q = p then x else v.burn q } := by
  exact {
    texts := by rw [upd, if_neg (by omega)]; exact M.texts,
    n := by rw [upd, if_neg (by omega)]; exact M.n,
    k := by rw [upd, if_neg (by omega)]; exact M.k,
    hour := by rw [upd, if_neg (by omega)]; exact M.hour,
    night := by rw [upd, if_neg (by omega)]; exact M.night,
    fog := by rw [upd, if_neg (by omega)]; exact M.fog,
    mist := by rw [upd, if_neg (by omega)]; exact M.mist,
    logs := by rw [upd, if_neg (by omega)]; exact M.logs,
    seed := by rw [upd, if_neg (by omega)]; exact M.seed,
    oil := fun q hq => by have : q < v.n := hq; rw [upd, if_neg (by omega)]; exact M.oil q hq,
    own := fun q hq => by have : q < v.n := hq; rw [upd, if_neg (by omega)]; exact M.own q hq,
    dark := fun q hq => by have : q < v.n := hq; rw [upd, if_neg (by omega)]; exact M.dark q hq,
    pl := fun q hq => by have : q < v.k := hq; rw [upd, if_neg (by omega)]; exact M.pl q hq,
    tp := fun q hq => by have : q < v.k := hq; rw [upd, if_neg (by omega)]; exact M.tp q hq,
    hd := fun q hq => by have : q < v.k := hq; rw [upd, if_neg (by omega)]; exact M.hd q hq,
    lt := fun q hq => by have : q < v.k := hq; rw [upd, if_neg (by omega)]; exact M.lt q hq,
    way := fun q r hq hr => by have : q < v.n := hq; have : r < v.n := hr; rw [upd, if_neg (by omega)]; exact M.way q r hq hr,
    like := fun q r hq hr => by have : q < v.k := hq; have : r < v.k := hr; rw [upd, if_neg (by omega)]; exact M.like q r hq hr,
    log := fun i r hi => by
      have hi2 := (List.getElem?_eq_some_iff.mp hi).1
      obtain ⟨h1, h2, h3, h4, h5⟩ := M.log i r hi
      refine ⟨?_, ?_, ?_, ?_, ?_⟩ <;> (rw [upd, if_neg (by omega)]; assumption),
    burn := fun q hq => by
      have : q < v.n := hq
      by_cases h : q = p
      · subst h; simp [upd]
      · rw [upd, if_neg (by omega)]; simp only [h, if_false]; exact M.burn q hq }
theorem SM.s_own' (M : SM a v) (h9 : v.n ≤ 9) (h6 : v.k ≤ 6) (h60 : v.log.length ≤ 60) {p : Nat} (hp : p < v.n) (x : Option Nat) : SM (upd a (11 + 4 * p + 2) (oI x)) { v with own := fun q => if q = p then x else v.own q } := by
  exact {
    texts := by rw [upd, if_neg (by omega)]; exact M.texts,
    n := by rw [upd, if_neg (by omega)]; exact M.n,
    k := by rw [upd, if_neg (by omega)]; exact M.k,
    hour := by rw [upd, if_neg (by omega)]; exact M.hour,
    night := by rw [upd, if_neg (by omega)]; exact M.night,
    fog := by rw [upd, if_neg (by omega)]; exact M.fog,
    mist := by rw [upd, if_neg (by omega)]; exact M.mist,
    logs := by rw [upd, if_neg (by omega)]; exact M.logs,
    seed := by rw [upd, if_neg (by omega)]; exact M.seed,
    oil := fun q hq => by have : q < v.n := hq; rw [upd, if_neg (by omega)]; exact M.oil q hq,
    burn := fun q hq => by have : q < v.n := hq; rw [upd, if_neg (by omega)]; exact M.burn q hq,
    dark := fun q hq => by have : q < v.n := hq; rw [upd, if_neg (by omega)]; exact M.dark q hq,
    pl := fun q hq => by have : q < v.k := hq; rw [upd, if_neg (by omega)]; exact M.pl q hq,
    tp := fun q hq => by have : q < v.k := hq; rw [upd, if_neg (by omega)]; exact M.tp q hq,
    hd := fun q hq => by have : q < v.k := hq; rw [upd, if_neg (by omega)]; exact M.hd q hq,
    lt := fun q hq => by have : q < v.k := hq; rw [upd, if_neg (by omega)]; exact M.lt q hq,
    way := fun q r hq hr => by have : q < v.n := hq; have : r < v.n := hr; rw [upd, if_neg (by omega)]; exact M.way q r hq hr,
    like := fun q r hq hr => by have : q < v.k := hq; have : r < v.k := hr; rw [upd, if_neg (by omega)]; exact M.like q r hq hr,
    log := fun i r hi => by
      have hi2 := (List.getElem?_eq_some_iff.mp hi).1
      obtain ⟨h1, h2, h3, h4, h5⟩ := M.log i r hi
      refine ⟨?_, ?_, ?_, ?_, ?_⟩ <;> (rw [upd, if_neg (by omega)]; assumption),
    own := fun q hq => by
      have : q < v.n := hq
      by_cases h : q = p
      · subst h; simp [upd]
      · rw [upd, if_neg (by omega)]; simp only [h, if_false]; exact M.own q hq }
theorem SM.s_dark' (M : SM a v) (h9 : v.n ≤ 9) (h6 : v.k ≤ 6) (h60 : v.log.length ≤ 60) {p : Nat} (hp : p < v.n) (x : Nat) : SM (upd a (11 + 4 * p + 3) (nI x)) { v with dark := fun q => if q = p then x else v.dark q } := by
  exact {
    texts := by rw [upd, if_neg (by omega)]; exact M.texts,
    n := by rw [upd, if_neg (by omega)]; exact M.n,
    k := by rw [upd, if_neg (by omega)]; exact M.k,
    hour := by rw [upd, if_neg (by omega)]; exact M.hour,
    night := by rw [upd, if_neg (by omega)]; exact M.night,
    fog := by rw [upd, if_neg (by omega)]; exact M.fog,
    mist := by rw [upd, if_neg (by omega)]; exact M.mist,
    logs := by rw [upd, if_neg (by omega)]; exact M.logs,
    seed := by rw [upd, if_neg (by omega)]; exact M.seed,
    oil := fun q hq => by have : q < v.n := hq; rw [upd, if_neg (by omega)]; exact M.oil q hq,
    burn := fun q hq => by have : q < v.n := hq; rw [upd, if_neg (by omega)]; exact M.burn q hq,
    own := fun q hq => by have : q < v.n := hq; rw [upd, if_neg (by omega)]; exact M.own q hq,
    pl := fun q hq => by have : q < v.k := hq; rw [upd, if_neg (by omega)]; exact M.pl q hq,
    tp := fun q hq => by have : q < v.k := hq; rw [upd, if_neg (by omega)]; exact M.tp q hq,
    hd := fun q hq => by have : q < v.k := hq; rw [upd, if_neg (by omega)]; exact M.hd q hq,
    lt := fun q hq => by have : q < v.k := hq; rw [upd, if_neg (by omega)]; exact M.lt q hq,
    way := fun q r hq hr => by have : q < v.n := hq; have : r < v.n := hr; rw [upd, if_neg (by omega)]; exact M.way q r hq hr,
    like := fun q r hq hr => by have : q < v.k := hq; have : r < v.k := hr; rw [upd, if_neg (by omega)]; exact M.like q r hq hr,
    log := fun i r hi => by
      have hi2 := (List.getElem?_eq_some_iff.mp hi).1
      obtain ⟨h1, h2, h3, h4, h5⟩ := M.log i r hi
      refine ⟨?_, ?_, ?_, ?_, ?_⟩ <;> (rw [upd, if_neg (by omega)]; assumption),
    dark := fun q hq => by
      have : q < v.n := hq
      by_cases h : q = p
      · subst h; simp [upd]
      · rw [upd, if_neg (by omega)]; simp only [h, if_false]; exact M.dark q hq }
theorem SM.s_pl' (M : SM a v) (h9 : v.n ≤ 9) (h6 : v.k ≤ 6) (h60 : v.log.length ≤ 60) {p : Nat} (hp : p < v.k) (x : Nat) : SM (upd a (128 + 4 * p) (nI x)) { v with pl := fun q => if q = p then x else v.pl q } := by
  exact {
    texts := by rw [upd, if_neg (by omega)]; exact M.texts,
    n := by rw [upd, if_neg (by omega)]; exact M.n,
    k := by rw [upd, if_neg (by omega)]; exact M.k,
    hour := by rw [upd, if_neg (by omega)]; exact M.hour,
    night := by rw [upd, if_neg (by omega)]; exact M.night,
    fog := by rw [upd, if_neg (by omega)]; exact M.fog,
    mist := by rw [upd, if_neg (by omega)]; exact M.mist,
    logs := by rw [upd, if_neg (by omega)]; exact M.logs,
    seed := by rw [upd, if_neg (by omega)]; exact M.seed,
    oil := fun q hq => by have : q < v.n := hq; rw [upd, if_neg (by omega)]; exact M.oil q hq,
    burn := fun q hq => by have : q < v.n := hq; rw [upd, if_neg (by omega)]; exact M.burn q hq,
    own := fun q hq => by have : q < v.n := hq; rw [upd, if_neg (by omega)]; exact M.own q hq,
    dark := fun q hq => by have : q < v.n := hq; rw [upd, if_neg (by omega)]; exact M.dark q hq,
    tp := fun q hq => by have : q < v.k := hq; rw [upd, if_neg (by omega)]; exact M.tp q hq,
    hd := fun q hq => by have : q < v.k := hq; rw [upd, if_neg (by omega)]; exact M.hd q hq,
    lt := fun q hq => by have : q < v.k := hq; rw [upd, if_neg (by omega)]; exact M.lt q hq,
    way := fun q r hq hr => by have : q < v.n := hq; have : r < v.n := hr; rw [upd, if_neg (by omega)]; exact M.way q r hq hr,
    like := fun q r hq hr => by have : q < v.k := hq; have : r < v.k := hr; rw [upd, if_neg (by omega)]; exact M.like q r hq hr,
    log := fun i r hi => by
      have hi2 := (List.getElem?_eq_some_iff.mp hi).1
      obtain ⟨h1, h2, h3, h4, h5⟩ := M.log i r hi
      refine ⟨?_, ?_, ?_, ?_, ?_⟩ <;> (rw [upd, if_neg (by omega)]; assumption),
    pl := fun q hq => by
      have : q < v.k := hq
      by_cases h : q = p
      · subst h; simp [upd]
      · rw [upd, if_neg (by omega)]; simp only [h, if_false]; exact M.pl q hq }
theorem SM.s_tp' (M : SM a v) (h9 : v.n ≤ 9) (h6 : v.k ≤ 6) (h60 : v.log.length ≤ 60) {p : Nat} (hp : p < v.k) (x : Nat) : SM (upd a (128 + 4 * p + 1) (nI x)) { v with tp := fun q => if q = p then x else v.tp q } := by
  exact {
    texts := by rw [upd, if_neg (by omega)]; exact M.texts,
    n := by rw [upd, if_neg (by omega)]; exact M.n,
    k := by rw [upd, if_neg (by omega)]; exact M.k,
    hour := by rw [upd, if_neg (by omega)]; exact M.hour,
    night := by rw [upd, if_neg (by omega)]; exact M.night,
    fog := by rw [upd, if_neg (by omega)]; exact M.fog,
    mist := by rw [upd, if_neg (by omega)]; exact M.mist,
    logs := by rw [upd, if_neg (by omega)]; exact M.logs,
    seed := by rw [upd, if_neg (by omega)]; exact M.seed,
    oil := fun q hq => by have : q < v.n := hq; rw [upd, if_neg (by omega)]; exact M.oil q hq,
    burn := fun q hq => by have : q < v.n := hq; rw [upd, if_neg (by omega)]; exact M.burn q hq,
    own := fun q hq => by have : q < v.n := hq; rw [upd, if_neg (by omega)]; exact M.own q hq,
    dark := fun q hq => by have : q < v.n := hq; rw [upd, if_neg (by omega)]; exact M.dark q hq,
    pl := fun q hq => by have : q < v.k := hq; rw [upd, if_neg (by omega)]; exact M.pl q hq,
    hd := fun q hq => by have : q < v.k := hq; rw [upd, if_neg (by omega)]; exact M.hd q hq,
    lt := fun q hq => by have : q < v.k := hq; rw [upd, if_neg (by omega)]; exact M.lt q hq,
    way := fun q r hq hr => by have : q < v.n := hq; have : r < v.n := hr; rw [upd, if_neg (by omega)]; exact M.way q r hq hr,
    like := fun q r hq hr => by have : q < v.k := hq; have : r < v.k := hr; rw [upd, if_neg (by omega)]; exact M.like q r hq hr,
    log := fun i r hi => by
      have hi2 := (List.getElem?_eq_some_iff.mp hi).1
      obtain ⟨h1, h2, h3, h4, h5⟩ := M.log i r hi
      refine ⟨?_, ?_, ?_, ?_, ?_⟩ <;> (rw [upd, if_neg (by omega)]; assumption),
    tp := fun q hq => by
      have : q < v.k := hq
      by_cases h : q = p
      · subst h; simp [upd]
      · rw [upd, if_neg (by omega)]; simp only [h, if_false]; exact M.tp q hq }
theorem SM.s_hd' (M : SM a v) (h9 : v.n ≤ 9) (h6 : v.k ≤ 6) (h60 : v.log.length ≤ 60) {p : Nat} (hp : p < v.k) (x : Option Nat) : SM (upd a (128 + 4 * p + 2) (oI x)) { v with hd := fun q => if q = p then x else v.hd q } := by
  exact {
    texts := by rw [upd, if_neg (by omega)]; exact M.texts,
    n := by rw [upd, if_neg (by omega)]; exact M.n,
    k := by rw [upd, if_neg (by omega)]; exact M.k,
    hour := by rw [upd, if_neg (by omega)]; exact M.hour,
    night := by rw [upd, if_neg (by omega)]; exact M.night,
    fog := by rw [upd, if_neg (by omega)]; exact M.fog,
    mist := by rw [upd, if_neg (by omega)]; exact M.mist,
    logs := by rw [upd, if_neg (by omega)]; exact M.logs,
    seed := by rw [upd, if_neg (by omega)]; exact M.seed,
    oil := fun q hq => by have : q < v.n := hq; rw [upd, if_neg (by omega)]; exact M.oil q hq,
    burn := fun q hq => by have : q < v.n := hq; rw [upd, if_neg (by omega)]; exact M.burn q hq,
    own := fun q hq => by have : q < v.n := hq; rw [upd, if_neg (by omega)]; exact M.own q hq,
    dark := fun q hq => by have : q < v.n := hq; rw [upd, if_neg (by omega)]; exact M.dark q hq,
    pl := fun q hq => by have : q < v.k := hq; rw [upd, if_neg (by omega)]; exact M.pl q hq,
    tp := fun q hq => by have : q < v.k := hq; rw [upd, if_neg (by omega)]; exact M.tp q hq,
    lt := fun q hq => by have : q < v.k := hq; rw [upd, if_neg (by omega)]; exact M.lt q hq,
    way := fun q r hq hr => by have : q < v.n := hq; have : r < v.n := hr; rw [upd, if_neg (by omega)]; exact M.way q r hq hr,
    like := fun q r hq hr => by have : q < v.k := hq; have : r < v.k := hr; rw [upd, if_neg (by omega)]; exact M.like q r hq hr,
    log := fun i r hi => by
      have hi2 := (List.getElem?_eq_some_iff.mp hi).1
      obtain ⟨h1, h2, h3, h4, h5⟩ := M.log i r hi
      refine ⟨?_, ?_, ?_, ?_, ?_⟩ <;> (rw [upd, if_neg (by omega)]; assumption),
    hd := fun q hq => by
      have : q < v.k := hq
      by_cases h : q = p
      · subst h; simp [upd]
      · rw [upd, if_neg (by omega)]; simp only [h, if_false]; exact M.hd q hq }
theorem SM.s_lt' (M : SM a v) (h9 : v.n ≤ 9) (h6 : v.k ≤ 6) (h60 : v.log.length ≤ 60) {p : Nat} (hp : p < v.k) (x : Nat) : SM (upd a (128 + 4 * p + 3) (nI x)) { v with lt := fun q => if q = p then x else v.lt q } := by
  exact {
    texts := by rw [upd, if_neg (by omega)]; exact M.texts,
    n := by rw [upd, if_neg (by omega)]; exact M.n,
    k := by rw [upd, if_neg (by omega)]; exact M.k,
    hour := by rw [upd, if_neg (by omega)]; exact M.hour,
    night := by rw [upd, if_neg (by omega)]; exact M.night,
    fog := by rw [upd, if_neg (by omega)]; exact M.fog,
    mist := by rw [upd, if_neg (by omega)]; exact M.mist,
    logs := by rw [upd, if_neg (by omega)]; exact M.logs,
    seed := by rw [upd, if_neg (by omega)]; exact M.seed,
    oil := fun q hq => by have : q < v.n := hq; rw [upd, if_neg (by omega)]; exact M.oil q hq,
    burn := fun q hq => by have : q < v.n := hq; rw [upd, if_neg (by omega)]; exact M.burn q hq,
    own := fun q hq => by have : q < v.n := hq; rw [upd, if_neg (by omega)]; exact M.own q hq,
    dark := fun q hq => by have : q < v.n := hq; rw [upd, if_neg (by omega)]; exact M.dark q hq,
    pl := fun q hq => by have : q < v.k := hq; rw [upd, if_neg (by omega)]; exact M.pl q hq,
    tp := fun q hq => by have : q < v.k := hq; rw [upd, if_neg (by omega)]; exact M.tp q hq,
    hd := fun q hq => by have : q < v.k := hq; rw [upd, if_neg (by omega)]; exact M.hd q hq,
    way := fun q r hq hr => by have : q < v.n := hq; have : r < v.n := hr; rw [upd, if_neg (by omega)]; exact M.way q r hq hr,
    like := fun q r hq hr => by have : q < v.k := hq; have : r < v.k := hr; rw [upd, if_neg (by omega)]; exact M.like q r hq hr,
    log := fun i r hi => by
      have hi2 := (List.getElem?_eq_some_iff.mp hi).1
      obtain ⟨h1, h2, h3, h4, h5⟩ := M.log i r hi
      refine ⟨?_, ?_, ?_, ?_, ?_⟩ <;> (rw [upd, if_neg (by omega)]; assumption),
    lt := fun q hq => by
      have : q < v.k := hq
      by_cases h : q = p
      · subst h; simp [upd]
      · rw [upd, if_neg (by omega)]; simp only [h, if_false]; exact M.lt q hq }
end PUTS

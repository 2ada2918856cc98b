/-! WHAT THE METHODS DO TO A PAGE -/
def pn (g : Page) : Nat := (g 9).toInt.toNat
def pinGo (g : Page) (p : Int32) : Nat → Nat → Int32
  | 0, _ => -9
  | f + 1, k => if g (12 + 2 * k) = p then nI k else pinGo g p f (k + 1)
def pinF (g : Page) (p : Int32) : Int32 := pinGo g p (pn g) 0
theorem pinGo_spec (g : Page) (p : Int32) : ∀ f k, (pinGo g p f k = -9 ∧ ∀ j, k ≤ j → j < k + f → g (12 + 2 * j) ≠ p) ∨ ∃ j, k ≤ j ∧ j < k + f ∧ pinGo g p f k = nI j ∧ g (12 + 2 * j) = p ∧ ∀ i, k ≤ i → i < j → g (12 + 2 * i) ≠ p := by
  intro f
  induction f with
  | zero => intro k; left; exact ⟨rfl, fun j h1 h2 => absurd h2 (by omega)⟩
  | succ f ih =>
    intro k
    by_cases h : g (12 + 2 * k) = p
    · right
      exact ⟨k, Nat.le_refl _, by omega, by simp [pinGo, h], h, fun i h1 h2 => absurd h2 (by omega)⟩
    · rcases ih (k + 1) with ⟨h1, h2⟩ | ⟨j, h1, h2, h3, h4, h5⟩
      · left
        refine ⟨by simp [pinGo, h, h1], fun j g1 g2 => ?_⟩
        by_cases hj : j = k
        · subst hj; exact h
        · exact h2 j (by omega) (by omega)
      · right
        refine ⟨j, by omega, by omega, by simp [pinGo, h, h3], h4, fun i g1 g2 => ?_⟩
        by_cases hi : i = k
        · subst hi; exact h
        · exact h5 i (by omega) g2
/-- the sine, as the class finds it -/
def sinA (v : Int32) : Int32 := if v / 5 < 18 then fSINES (v / 5).toNatClampNeg + (fSINES (v / 5 + 1).toNatClampNeg - fSINES (v / 5).toNatClampNeg) * (v - v / 5 * 5) / 5 else fSINES 18
def sinF (x : Int32) : Int32 := if 0 ≤ x then sinA x else -(sinA (0 - x))
def sinB (v : Int32) : Int32 := if v - v / 5 * 5 = 0 then fSINES (v / 5).toNatClampNeg else fSINES (v / 5).toNatClampNeg + (fSINES (v / 5 + 1).toNatClampNeg - fSINES (v / 5).toNatClampNeg) * (v - v / 5 * 5) / 5
theorem sin_tab : ∀ n, n < 91 → sinA (nI n) = sinB (nI n) ∧ 0 ≤ (sinA (nI n)).toInt ∧ (sinA (nI n)).toInt ≤ 1000 ∧ (nI n / 5).toInt = n / 5 ∧ (nI n / 5).toNatClampNeg ≤ 18 ∧ (¬ nI n - nI n / 5 * 5 = 0 → nI n / 5 < 18) ∧ (nI n / 5 < 18 → (nI n / 5 + 1).toNatClampNeg ≤ 18) := by decide +kernel
def gainF (g : Page) (a : Int32) : Page := upd g 7 (if g 7 + a < 9999 then g 7 + a else 9999)
def loseF (g : Page) (a : Int32) : Page := upd g 7 (if 0 < g 7 - a then g 7 - a else 0)
def absF (x : Int32) : Int32 := if 0 ≤ x then x else 0 - x
def nudgeF (g : Page) (by_ : Int32) : Page := upd (loseF (upd g 5 (aroundF (g 5 + by_))) (2 * absF by_)) 6 0
def setF (g : Page) (w : Nat) (v : Int32) : Page := if w = 1 then upd (upd g w v) 6 0 else upd g w v
def putF (g : Page) (p : Int32) : Page := upd (upd (upd g (12 + 2 * pn g) p) (13 + 2 * pn g) 1) 9 (g 9 + 1)
def removeF (g : Page) (k : Nat) : Page := upd (fun j => if 12 + 2 * k ≤ j ∧ j + 2 < 92 then g (j + 2) else g j) 9 (g 9 - 1)
def raiseF (g : Page) : Page := fun j => if 12 ≤ j ∧ j < 12 + 2 * pn g ∧ j % 2 = 1 then 1 else g j
def sumGo (g : Page) : Nat → Int32
  | 0 => 0
  | n + 1 => sumGo g n + g (13 + 2 * n)
def standF (g : Page) : Int32 := sumGo g (pn g)
def rn (g : Page) : Nat := (g 11).toInt.toNat
def readF (g : Page) : Page := upd (upd (upd (upd g (152 + 3 * rn g) (g 8)) (153 + 3 * rn g) (g 5)) (154 + 3 * rn g) (g 7)) 11 (g 11 + 1)
def hitF (g : Page) (k : Nat) : Page :=
  let g3 := upd (upd g (13 + 2 * k) 0) 7 (if 50 ≤ g 7 then g 7 - 50 else 0)
  fun j => if 95 ≤ j ∧ j ≤ 151 then g3 (j - 3) else if j = 92 then g3 5 else if j = 93 then g3 8 else if j = 94 then g3 7 else if j = 10 then (if 20 ≤ g 10 then 20 else g 10 + 1) else g3 j
/-- a minute on or back: the page, how many fell, the pin that fell -/
def stepF (b : Int32) (g : Page) : Page × Int32 × Int32 :=
  let g1 := upd g 5 (aroundF (g 5 + b))
  let r := pinF g1 (g1 5)
  if r = -9 then (g1, 0, -9) else if g1 (13 + 2 * r.toNatClampNeg) = 0 then (g1, 0, -9) else if g1 7 < g1 3 then (g1, 0, -9) else (hitF g1 r.toNatClampNeg, 1, r)
def stepN (b : Int32) : Nat → Page × Int32 × Int32 → Page × Int32 × Int32
  | 0, s => s
  | n + 1, s => let t := stepN b n s
    let r := stepF b t.1
    (r.1, t.2.1 + r.2.1, if t.2.2 = -9 then r.2.2 else t.2.2)
def dragF (g : Page) : Page := let h := loseF g (g 7 * g 2 / 10000 + 1); gainF h (h 4)
/-- the way of a turn: minutes on (or back), rounded down -/
def wayF (g : Page) : Int := ((g 6).toInt + 900 * (sinF (g 0)).toInt) / (1000 * (g 1).toInt)
def restF (g : Page) : Int32 := g 6 + 900 * sinF (g 0) - Int32.ofInt (wayF g) * (1000 * g 1)
def moveF (g : Page) (f : Int32) : Page × Int32 × Int32 := stepN (if 0 ≤ wayF g then 1 else -1) (wayF g).natAbs (upd g 6 (restF g), 0, f)
/-- a turn: the page, how many fell, the first that fell (f: the first one before) -/
def turnF (g : Page) (f : Int32) : Page × Int32 × Int32 :=
  if 0 < g 7 then
    let r := moveF g f
    let d := dragF r.1
    (upd d 8 (d 8 + 1), r.2.1, r.2.2)
  else (upd g 8 (g 8 + 1), 0, f)
/-- pages that hold the same but for places that nobody reads -/
def PEq (h g : Page) : Prop := (∀ j, j < 12 → h j = g j) ∧ (∀ k, k < pn g → h (12 + 2 * k) = g (12 + 2 * k) ∧ h (13 + 2 * k) = g (13 + 2 * k)) ∧ (∀ j, j < 3 * (g 10).toInt.toNat → h (92 + j) = g (92 + j)) ∧ ∀ j, j < 3 * rn g → h (152 + j) = g (152 + j)
/-- what a page always keeps -/
def Val (g : Page) : Prop :=
  (-90 ≤ (g 0).toInt ∧ (g 0).toInt ≤ 90) ∧ (60 ≤ (g 1).toInt ∧ (g 1).toInt ≤ 900) ∧ (0 ≤ (g 2).toInt ∧ (g 2).toInt ≤ 99) ∧ (1 ≤ (g 3).toInt ∧ (g 3).toInt ≤ 9999) ∧ (0 ≤ (g 4).toInt ∧ (g 4).toInt ≤ 99) ∧
  (0 ≤ (g 5).toInt ∧ (g 5).toInt < 10800) ∧ (0 ≤ (g 6).toInt ∧ (g 6).toInt < 1000 * (g 1).toInt) ∧ (0 ≤ (g 7).toInt ∧ (g 7).toInt ≤ 9999) ∧ (0 ≤ (g 9).toInt ∧ (g 9).toInt ≤ 40) ∧ (0 ≤ (g 10).toInt ∧ (g 10).toInt ≤ 20) ∧ (0 ≤ (g 11).toInt ∧ (g 11).toInt ≤ 20) ∧
  (∀ k, k < pn g → 0 ≤ (g (12 + 2 * k)).toInt ∧ (g (12 + 2 * k)).toInt < 10800 ∧ (g (13 + 2 * k) = 0 ∨ g (13 + 2 * k) = 1)) ∧ (∀ j k, j < pn g → k < pn g → g (12 + 2 * j) = g (12 + 2 * k) → j = k) ∧
  (∀ k, k < rn g → 0 ≤ (g (153 + 3 * k)).toInt ∧ (g (153 + 3 * k)).toInt < 10800)

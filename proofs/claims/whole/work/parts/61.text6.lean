/-- the page with so many pins told -/
def ldN (t : Page) (g : Page) : Nat → Page
  | 0 => g
  | k + 1 => putF (ldN t g k) (nI (60 * deg t k))
theorem ld_facts {t g : Page} (h9 : g 9 = 0) : ∀ k, k ≤ 20 → ldN t g k 9 = nI k ∧ pn (ldN t g k) = k ∧ ∀ j, j < k → ldN t g k (12 + 2 * j) = nI (60 * deg t j)
  | 0, _ => ⟨h9, by show pn g = 0; unfold pn; rw [h9]; rfl, fun j hj => absurd hj (by omega)⟩
  | k + 1, hk => by
    obtain ⟨a, b, c⟩ := ld_facts h9 k (by omega)
    have h := pn_put (ldN t g k) (nI (60 * deg t k)) (by rw [a, nI_toInt (by omega)]; omega)
    refine ⟨?_, by show pn (putF _ _) = _; rw [h, b], fun j hj => ?_⟩
    · show putF (ldN t g k) (nI (60 * deg t k)) 9 = _
      unfold putF
      rw [updE, if_pos rfl, a, nI_1]
    · show putF (ldN t g k) (nI (60 * deg t k)) (12 + 2 * j) = _
      unfold putF
      rw [b, updE, if_neg (by omega), updE, if_neg (by omega), updE]
      by_cases e : j = k
      · subst e; rw [if_pos rfl]
      · rw [if_neg (by omega)]; exact c j (by omega)
def Wm (M : Mem) (s : Nat) (g : Page) : Mem := va_up (mup M 117 3 (nI s)) 119 g
theorem Wm_117 {M : Mem} {s s' : Nat} {g : Page} : mup (Wm M s g) 117 3 (nI s') = Wm M s' g := by
  unfold Wm
  funext c
  by_cases h : c = 117
  · subst h; rw [mup_self, vu_ne (by decide), vu_ne (by decide), mup_self, mup_self, upd_upd]
  · rw [mup_ne h]
    by_cases h2 : c = 119
    · subst h2; rw [vu_self, vu_self]
    · rw [vu_ne h2, vu_ne h2, mup_ne h, mup_ne h]
theorem Wm_119 {M : Mem} {s k : Nat} {g : Page} {x : Int32} : mup (Wm M s g) 119 k x = Wm M s (upd g k x) := by unfold Wm; rw [mup_vu2]
theorem Wm_vu {M : Mem} {s : Nat} {g g' : Page} : va_up (Wm M s g) 119 g' = Wm M s g' := by unfold Wm; rw [vu_vu]
theorem Wm_self {M : Mem} {s : Nat} {g : Page} : Wm M s g 119 = g := vu_self
theorem Wm_ne {M : Mem} {s c : Nat} {g : Page} (h1 : c ≠ 117) (h2 : c ≠ 119) : Wm M s g c = M c := by unfold Wm; rw [vu_ne h2, mup_ne h1]
theorem Wm_f {M : Mem} {s j : Nat} {g : Page} (h : j ≠ 3) : Wm M s g 117 j = M 117 j := by unfold Wm; rw [vu_ne (by decide), mup_self, updE, if_neg h]
theorem Wm_3 {M : Mem} {s : Nat} {g : Page} : Wm M s g 117 3 = nI s := by unfold Wm; rw [vu_ne (by decide), mup_self, updE, if_pos rfl]
def Fail (M : Mem) (t : Page) (n : Nat) (M' : Mem) : Prop := ∃ s g, M' = Wm M s g ∧ errAt t n s
def latF (t : Page) : Int32 := if t 1 = 45 then -(nI (num t 2 2)) else nI (num t 2 2)
def ldG (t p : Page) : Page := upd (upd (upd (upd (begF p) 0 (latF t)) 1 (nI (num t 4 3))) 2 (nI (num t 7 2))) 7 (nI (num t 9 4))
theorem m9 (x : Nat) (h : x < 100000) : ¬ nI x = -9 := by
  rw [i32_eq, nI_toInt (by omega)]
  have : (-9 : Int32).toInt = -9 := rfl
  omega
theorem fr_fits {g : Page} {v s lo hi : Nat} (hs : 0 < s) (hlh : lo ≤ hi) : Fr5 g 0 (max lo (v * s)) (min hi (v * s + s - 1)) ↔ fitsN v s lo hi := by
  unfold Fr5 fitsN
  constructor
  · rintro ⟨u, h1, h2, -⟩
    have a := Nat.le_trans (Nat.le_max_left lo (v * s)) h1
    have b := Nat.le_trans (Nat.le_max_right lo (v * s)) h1
    have c := Nat.le_trans h2 (Nat.min_le_left hi (v * s + s - 1))
    have d := Nat.le_trans h2 (Nat.min_le_right hi (v * s + s - 1))
    omega
  · rintro ⟨h1, h2⟩
    refine ⟨max lo (v * s), Nat.le_refl _, Nat.le_min.mpr ⟨Nat.max_le.mpr ⟨hlh, h1⟩, Nat.max_le.mpr ⟨h2, by omega⟩⟩, fun z => absurd z (by decide)⟩
theorem isD_num {t : Page} {a m : Nat} (u : upTo t (a + m)) (ha : 2 ≤ a) (h : a + m ≤ 13) : ∀ i, i < m → isD t (a + i) := fun i hi => u.dig (by omega) (by omega) (by omega)
theorem alw_set {t : Page} {i : Nat} (h2 : 2 ≤ i) (h13 : i < 13) : alw t i ↔ isD t i ∧ (i < 4 → fitsN (num t 2 (i - 1)) (10 ^ (3 - i)) 0 90) ∧ (4 ≤ i → i < 7 → fitsN (num t 4 (i - 3)) (10 ^ (6 - i)) 60 900) := by
  constructor
  · rintro ⟨-, -, a2, a4, a7, -, -, -⟩
    by_cases c : i < 4
    · exact ⟨(a2 h2 c).1, fun _ => (a2 h2 c).2, fun h => absurd h (by omega)⟩
    · by_cases c2 : i < 7
      · exact ⟨(a4 (by omega) c2).1, fun h => absurd h c, fun h1 h2 => (a4 h1 h2).2⟩
      · exact ⟨a7 (by omega) h13, fun h => absurd h c, fun _ h => absurd h c2⟩
  · rintro ⟨d, f1, f2⟩
    exact ⟨fun h => absurd h (by omega), fun h => absurd h (by omega), fun _ h => ⟨d, f1 h⟩, fun h1 h2 => ⟨d, f2 h1 h2⟩, fun _ _ => d, by omega, fun h => absurd h (by omega), fun h => absurd h (by omega)⟩
theorem hA2 {t g : Page} {n : Nat} : ∀ m, m < 2 → upTo t (2 + m) → 2 + m < n → (alw t (2 + m) ↔ isD t (2 + m) ∧ Fr5 g 0 (max 0 (num t 2 (m + 1) * 10 ^ (2 - 1 - m))) (min 90 (num t 2 (m + 1) * 10 ^ (2 - 1 - m) + 10 ^ (2 - 1 - m) - 1))) := fun m hm u _ => by
  rw [fr_fits (pow5 (m := 2 - 1 - m) (by omega)).1 (by decide), alw_set (by omega) (by omega), show 2 + m - 1 = m + 1 by omega, show 3 - (2 + m) = 2 - 1 - m by omega]
  exact ⟨fun h => ⟨h.1, h.2.1 (by omega)⟩, fun h => ⟨h.1, fun _ => h.2, fun z => absurd z (by omega)⟩⟩
theorem hA4 {t g : Page} {n : Nat} : ∀ m, m < 3 → upTo t (4 + m) → 4 + m < n → (alw t (4 + m) ↔ isD t (4 + m) ∧ Fr5 g 0 (max 60 (num t 4 (m + 1) * 10 ^ (3 - 1 - m))) (min 900 (num t 4 (m + 1) * 10 ^ (3 - 1 - m) + 10 ^ (3 - 1 - m) - 1))) := fun m hm u _ => by
  rw [fr_fits (pow5 (m := 3 - 1 - m) (by omega)).1 (by decide), alw_set (by omega) (by omega), show 4 + m - 3 = m + 1 by omega, show 6 - (4 + m) = 3 - 1 - m by omega]
  exact ⟨fun h => ⟨h.1, h.2.2 (by omega) (by omega)⟩, fun h => ⟨h.1, fun z => absurd z (by omega), fun _ _ => h.2⟩⟩
theorem any_fits {t : Page} {a m D : Nat} (hm : m < D) (hD : D ≤ 4) (d : ∀ i, i < m + 1 → isD t (a + i)) : fitsN (num t a (m + 1)) (10 ^ (D - 1 - m)) 0 (10 ^ D - 1) := by
  have h := num_lt (m + 1) d
  have p := pow5 (m := D - 1 - m) (by omega)
  have h2 : num t a (m + 1) * 10 ^ (D - 1 - m) < 10 ^ (m + 1) * 10 ^ (D - 1 - m) := Nat.mul_lt_mul_of_pos_right h p.1
  rw [← Nat.pow_add, show m + 1 + (D - 1 - m) = D by omega] at h2
  unfold fitsN
  omega
theorem hA7 {t g : Page} {n : Nat} : ∀ m, m < 2 → upTo t (7 + m) → 7 + m < n → (alw t (7 + m) ↔ isD t (7 + m) ∧ Fr5 g 0 (max 0 (num t 7 (m + 1) * 10 ^ (2 - 1 - m))) (min 99 (num t 7 (m + 1) * 10 ^ (2 - 1 - m) + 10 ^ (2 - 1 - m) - 1))) := fun m hm u _ => by
  rw [fr_fits (pow5 (m := 2 - 1 - m) (by omega)).1 (by decide), alw_set (by omega) (by omega)]
  refine ⟨fun h => ⟨h.1, any_fits (D := 2) hm (by decide) (fun i hi => ?_)⟩, fun h => ⟨h.1, fun z => absurd z (by omega), fun _ z => absurd z (by omega)⟩⟩
  by_cases e : i = m
  · subst e; exact h.1
  · exact u.dig (by omega) (by omega) (by omega)
theorem hA9 {t g : Page} {n : Nat} : ∀ m, m < 4 → upTo t (9 + m) → 9 + m < n → (alw t (9 + m) ↔ isD t (9 + m) ∧ Fr5 g 0 (max 0 (num t 9 (m + 1) * 10 ^ (4 - 1 - m))) (min 9999 (num t 9 (m + 1) * 10 ^ (4 - 1 - m) + 10 ^ (4 - 1 - m) - 1))) := fun m hm u _ => by
  rw [fr_fits (pow5 (m := 4 - 1 - m) (by omega)).1 (by decide), alw_set (by omega) (by omega)]
  refine ⟨fun h => ⟨h.1, any_fits (D := 4) hm (by decide) (fun i hi => ?_)⟩, fun h => ⟨h.1, fun z => absurd z (by omega), fun _ z => absurd z (by omega)⟩⟩
  by_cases e : i = m
  · subst e; exact h.1
  · exact u.dig (by omega) (by omega) (by omega)
theorem hAp {t g : Page} {n k : Nat} (hk : k < 20) (h9 : pn g = k) (hp : ∀ j, j < k → g (12 + 2 * j) = nI (60 * deg t j)) : ∀ m, m < 3 → upTo t (14 + 4 * k + m) → 14 + 4 * k + m < n → (alw t (14 + 4 * k + m) ↔ isD t (14 + 4 * k + m) ∧ Fr5 g 1 (max 0 (num t (14 + 4 * k) (m + 1) * 10 ^ (3 - 1 - m))) (min 179 (num t (14 + 4 * k) (m + 1) * 10 ^ (3 - 1 - m) + 10 ^ (3 - 1 - m) - 1))) := fun m hm u _ => by
  have ek : (14 + 4 * k + m - 13) / 4 = k := by omega
  have em : (14 + 4 * k + m - 13) % 4 - 1 = m := by omega
  have key : ∀ w, w ≤ 179 → ((1 = 1 → ∀ j, j < pn g → g (12 + 2 * j) ≠ nI (60 * w)) ↔ ∀ j, j < k → deg t j ≠ w) := fun w hw => by
    rw [h9]
    have dl : ∀ j, j < k → deg t j ≤ 179 := fun j hj => (u.place (k := j) (by omega)).1
    constructor
    · intro h j hj e
      exact h rfl j hj (by rw [hp j hj, e])
    · intro h _ j hj e
      rw [hp j hj, eqn (by have := dl j hj; omega) (by omega)] at e
      exact h j hj (by omega)
  have eq : Fr5 g 1 (max 0 (num t (14 + 4 * k) (m + 1) * 10 ^ (3 - 1 - m))) (min 179 (num t (14 + 4 * k) (m + 1) * 10 ^ (3 - 1 - m) + 10 ^ (3 - 1 - m) - 1)) ↔ OKp t k m := by
    unfold Fr5 OKp
    rw [Nat.zero_max, show 3 - 1 - m = 2 - m by omega]
    constructor
    · rintro ⟨w, a, b, c⟩
      have b1 := Nat.le_trans b (Nat.min_le_left _ _)
      have b2 := Nat.le_trans b (Nat.min_le_right _ _)
      exact ⟨w, a, b1, b2, (key w b1).mp c⟩
    · rintro ⟨w, a, b1, b2, c⟩
      exact ⟨w, a, Nat.le_min.mpr ⟨b1, b2⟩, (key w b1).mpr c⟩
  rw [eq]
  constructor
  · rintro ⟨-, -, -, -, -, -, -, a⟩
    have := a (by omega) (by omega)
    rw [ek, em] at this
    exact this
  · rintro ⟨d, o⟩
    refine ⟨fun h => absurd h (by omega), fun h => absurd h (by omega), fun _ h => absurd h (by omega), fun _ h => absurd h (by omega), fun _ h => absurd h (by omega), by omega, fun _ h => absurd h (by omega), fun _ _ => ?_⟩
    rw [ek, em]
    exact ⟨d, o⟩

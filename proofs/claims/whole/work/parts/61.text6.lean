/-- the page with so many pins told -/
def ldN (t : Page) (g : Page) : Nat → Page
  | 0 => g
  | k + 1 => putF (ldN t g k) (nI (60 * deg t k))
theorem ld_facts {t g : Page} (h9 : g 9 = 0) : ∀ k, k ≤ 20 → ldN t g k 9 = nI k ∧ pn (ldN t g k) = k ∧ ∀ j, j < k → ldN t g k (12 + 2 * j) = nI (60 * deg t j)
  | 0, _ => ⟨h9, by show pn g = 0; unfold pn; rw [h9]; rfl, fun j hj => absurd hj (by omega)⟩
  | k + 1, hk => by
    obtain ⟨a, b, c⟩ := ld_facts h9 k (by omega)
    have h := pn_put (ldN t g k) (nI (60 * deg t k)) (by rw [a, nI_toInt (by omega)]; omega)
    refine ⟨?_, by show pn (putF _ _) = _; rw [h, b], fun j hj => ?_⟩
    · show putF (ldN t g k) (nI (60 * deg t k)) 9 = _
      unfold putF
      rw [updE, if_pos rfl, a, nI_1]
    · show putF (ldN t g k) (nI (60 * deg t k)) (12 + 2 * j) = _
      unfold putF
      rw [b, updE, if_neg (by omega), updE, if_neg (by omega), updE]
      by_cases e : j = k
      · subst e; rw [if_pos rfl]
      · rw [if_neg (by omega)]; exact c j (by omega)
def Wm (M : Mem) (s : Nat) (g : Page) : Mem := va_up (mup M 117 3 (nI s)) 119 g
theorem Wm_117 {M : Mem} {s s' : Nat} {g : Page} : mup (Wm M s g) 117 3 (nI s') = Wm M s' g := by
  unfold Wm
  funext c
  by_cases h : c = 117
  · subst h; rw [mup_self, vu_ne (by decide), vu_ne (by decide), mup_self, mup_self, upd_upd]
  · rw [mup_ne h]
    by_cases h2 : c = 119
    · subst h2; rw [vu_self, vu_self]
    · rw [vu_ne h2, vu_ne h2, mup_ne h, mup_ne h]
theorem Wm_119 {M : Mem} {s k : Nat} {g : Page} {x : Int32} : mup (Wm M s g) 119 k x = Wm M s (upd g k x) := by unfold Wm; rw [mup_vu2]
theorem Wm_vu {M : Mem} {s : Nat} {g g' : Page} : va_up (Wm M s g) 119 g' = Wm M s g' := by unfold Wm; rw [vu_vu]
theorem Wm_self {M : Mem} {s : Nat} {g : Page} : Wm M s g 119 = g := vu_self
theorem Wm_ne {M : Mem} {s c : Nat} {g : Page} (h1 : c ≠ 117) (h2 : c ≠ 119) : Wm M s g c = M c := by unfold Wm; rw [vu_ne h2, mup_ne h1]
theorem Wm_f {M : Mem} {s j : Nat} {g : Page} (h : j ≠ 3) : Wm M s g 117 j = M 117 j := by unfold Wm; rw [vu_ne (by decide), mup_self, updE, if_neg h]
theorem Wm_3 {M : Mem} {s : Nat} {g : Page} : Wm M s g 117 3 = nI s := by unfold Wm; rw [vu_ne (by decide), mup_self, updE, if_pos rfl]
def Fail (M : Mem) (t : Page) (n : Nat) (M' : Mem) : Prop := ∃ s g, M' = Wm M s g ∧ errAt t n s
def latF (t : Page) : Int32 := if t 1 = 45 then -(nI (num t 2 2)) else nI (num t 2 2)
def ldG (t p : Page) : Page := upd (upd (upd (upd (begF p) 0 (latF t)) 1 (nI (num t 4 3))) 2 (nI (num t 7 2))) 7 (nI (num t 9 4))
theorem m9 (x : Nat) (h : x < 100000) : ¬ nI x = -9 := by
  rw [i32_eq, nI_toInt (by omega)]
  have : (-9 : Int32).toInt = -9 := rfl
  omega
theorem fr_fits {g : Page} {v s lo hi : Nat} (hs : 0 < s) (hlh : lo ≤ hi) : Fr5 g 0 (max lo (v * s)) (min hi (v * s + s - 1)) ↔ fitsN v s lo hi := by
  unfold Fr5 fitsN
  constructor
  · rintro ⟨u, h1, h2, -⟩
    have a := Nat.le_trans (Nat.le_max_left lo (v * s)) h1
    have b := Nat.le_trans (Nat.le_max_right lo (v * s)) h1
    have c := Nat.le_trans h2 (Nat.min_le_left hi (v * s + s - 1))
    have d := Nat.le_trans h2 (Nat.min_le_right hi (v * s + s - 1))
    omega
  · rintro ⟨h1, h2⟩
    refine ⟨max lo (v * s), Nat.le_refl _, Nat.le_min.mpr ⟨Nat.max_le.mpr ⟨hlh, h1⟩, Nat.max_le.mpr ⟨h2, by omega⟩⟩, fun z => absurd z (by decide)⟩
theorem isD_num {t : Page} {a m : Nat} (u : upTo t (a + m)) (ha : 2 ≤ a) (h : a + m ≤ 13) : ∀ i, i < m → isD t (a + i) := fun i hi => u.dig (by omega) (by omega) (by omega)

def deg (t : Page) (j : Nat) : Nat := num t (14 + 4 * j) 3
/-- a place that begins so is still free -/
def OKp (t : Page) (k m : Nat) : Prop := ∃ u, num t (14 + 4 * k) (m + 1) * 10 ^ (2 - m) ≤ u ∧ u ≤ 179 ∧ u ≤ num t (14 + 4 * k) (m + 1) * 10 ^ (2 - m) + 10 ^ (2 - m) - 1 ∧ ∀ j, j < k → deg t j ≠ u
/-- the sign at i may stand there -/
def alw (t : Page) (i : Nat) : Prop :=
  (i = 0 → t 0 = 70) ∧ (i = 1 → t 1 = 43 ∨ t 1 = 45) ∧ (2 ≤ i → i < 4 → isD t i ∧ fitsN (num t 2 (i - 1)) (10 ^ (3 - i)) 0 90) ∧ (4 ≤ i → i < 7 → isD t i ∧ fitsN (num t 4 (i - 3)) (10 ^ (6 - i)) 60 900) ∧ (7 ≤ i → i < 13 → isD t i) ∧ i < 93 ∧ (13 ≤ i → (i - 13) % 4 = 0 → t i = 112) ∧ (13 ≤ i → (i - 13) % 4 ≠ 0 → isD t i ∧ OKp t ((i - 13) / 4) ((i - 13) % 4 - 1))
def upTo (t : Page) (s : Nat) : Prop := ∀ i, i < s → alw t i
theorem upTo.dig {t : Page} {s j : Nat} (h : upTo t s) (hj : j < s) (h2 : 2 ≤ j) (h3 : j < 13 ∨ (j - 13) % 4 ≠ 0) : isD t j := by
  obtain ⟨-, -, a, b, c, -, -, d⟩ := h j hj
  by_cases c1 : j < 4
  · exact (a h2 c1).1
  · by_cases c2 : j < 7
    · exact (b (by omega) c2).1
    · by_cases c3 : j < 13
      · exact c (by omega) c3
      · exact (d (by omega) (by omega)).1
theorem upTo.place {t : Page} {s k : Nat} (h : upTo t s) (hk : 17 + 4 * k ≤ s) : deg t k ≤ 179 ∧ ∀ j, j < k → deg t j ≠ deg t k := by
  obtain ⟨-, -, -, -, -, -, -, d⟩ := h (16 + 4 * k) (by omega)
  obtain ⟨-, u, h1, h2, h3, h4⟩ := d (by omega) (by omega)
  rw [show (16 + 4 * k - 13) / 4 = k by omega, show (16 + 4 * k - 13) % 4 - 1 = 2 by omega] at h1 h3
  rw [show (16 + 4 * k - 13) / 4 = k by omega] at h4
  have e : num t (14 + 4 * k) (2 + 1) = deg t k := rfl
  rw [e, Nat.sub_self, Nat.pow_zero, Nat.mul_one] at h1 h3
  have : u = deg t k := by omega
  subst this
  exact ⟨h2, h4⟩
theorem upTo.dist {t : Page} {s k : Nat} (h : upTo t s) (hk : 13 + 4 * k ≤ s) : ∀ i j, i < k → j < k → deg t i = deg t j → i = j := by
  intro i j hi hj e
  by_cases c : i < j
  · exact absurd e ((h.place (k := j) (by omega)).2 i c)
  · by_cases c2 : j < i
    · exact absurd e.symm ((h.place (k := i) (by omega)).2 j c2)
    · omega
theorem s_isD {i n : Nat} {t : Page} {M : Mem} {Q : Int32 → Mem → Prop} (hi : i < 100) (e2 : M 110 = t) (k1 : isD t i → Q 1 M) (k0 : ¬ isD t i → Q 0 M) : wp_X3_isDigit (nI i) M Q := by
  unfold wp_X3_isDigit
  have d48 : (48 : Int32).toInt = 48 := rfl
  have d57 : (57 : Int32).toInt = 57 := rfl
  rw [e2, nI_clamp (by omega), i32_lt, i32_lt, d48, d57]
  unfold isD at k1 k0
  exact ⟨vp_in_nI hi (by decide), fun c => k0 (by omega), fun c => ⟨vp_in_nI hi (by decide), fun c2 => k0 (by omega), fun c2 => k1 (by omega)⟩⟩
theorem pow4 {m : Nat} (h : m ≤ 3) : 0 < 10 ^ m ∧ 10 ^ m ≤ 1000 := by
  rcases (show m = 0 ∨ m = 1 ∨ m = 2 ∨ m = 3 by omega) with z | z | z | z <;> subst z <;> decide
theorem num_span {t : Page} {a m r : Nat} (hd : ∀ i, i < m → isD t (a + i)) (hr : m + r ≤ 3) : num t a m * 10 ^ r < 1000 := by
  have h := num_lt m hd
  have p := pow4 (m := r) (by omega)
  have h2 : num t a m * 10 ^ r < 10 ^ m * 10 ^ r := Nat.mul_lt_mul_of_pos_right h p.1
  rw [← Nat.pow_add] at h2
  have := (pow4 hr).2
  omega
/-- a digit of a setting -/
theorem s_setFits {i n : Nat} {t : Page} {M : Mem} {Q : Int32 → Mem → Prop} (hn : n ≤ 100) (h2 : 2 ≤ i) (h13 : i < 13) (hi : i < n) (e1 : M 109 1 = nI n) (e2 : M 110 = t) (u : upTo t i) (d : isD t i)
    (k1 : (i < 4 → fitsN (num t 2 (i - 1)) (10 ^ (3 - i)) 0 90) → (4 ≤ i → i < 7 → fitsN (num t 4 (i - 3)) (10 ^ (6 - i)) 60 900) → Q 1 M)
    (k0 : ¬ ((i < 4 → fitsN (num t 2 (i - 1)) (10 ^ (3 - i)) 0 90) ∧ (4 ≤ i → i < 7 → fitsN (num t 4 (i - 3)) (10 ^ (6 - i)) 60 900)) → Q 0 M) : wp_X3_settingDigitFits (nI i) M Q := by
  have dd : ∀ a m, 2 ≤ a → a + m ≤ i + 1 → i < 13 → ∀ j, j < m → isD t (a + j) := fun a m ha hm _ j hj => by
    by_cases c : a + j = i
    · rw [c]; exact d
    · exact u.dig (by omega) (by omega) (by omega)
  simp only [wp_X3_settingDigitFits, forall_eq]
  rw [nI_1, show (4 : Int32) = nI 4 from rfl, show (7 : Int32) = nI 7 from rfl, show (2 : Int32) = nI 2 from rfl, nI_leI (by omega) (by omega), nI_leI (by omega) (by omega)]
  refine ⟨fun c => ⟨fun c2 => k1 (fun z => absurd z (by omega)) (fun _ z => absurd z (by omega)), fun c2 => ?_⟩, fun c => ?_⟩
  · have D := dd 4 (i - 3) (by decide) (by omega) h13
    have ns := num_span (r := 6 - i) D (by omega)
    refine s_num hn (show i + 1 = 4 + (i - 3) by omega) (by omega) (by omega) e1 e2 D (s_span (by omega) (by omega) (by omega) ?_)
    rw [show 7 - 1 - i = 6 - i by omega]
    have p := pow4 (m := 6 - i) (by omega)
    exact s_beg (lo := 60) (hi := 900) p.1 (by omega) p.2 (by decide) (by decide) (fun f => ⟨rfl, k1 (fun z => absurd z (by omega)) (fun _ _ => f)⟩) (fun f => ⟨rfl, k0 (fun z => f (z.2 c (by omega)))⟩)
  · have D := dd 2 (i - 1) (by decide) (by omega) h13
    have ns := num_span (r := 3 - i) D (by omega)
    refine s_num hn (show i + 1 = 2 + (i - 1) by omega) (by omega) (by omega) e1 e2 D (s_span (by omega) (by omega) (by omega) ?_)
    rw [show 4 - 1 - i = 3 - i by omega]
    have p := pow4 (m := 3 - i) (by omega)
    exact s_beg (lo := 0) (hi := 90) p.1 (by omega) p.2 (by decide) (by decide) (fun f => ⟨rfl, k1 (fun _ => f) (fun z => absurd z c)⟩) (fun f => ⟨rfl, k0 (fun z => f (z.1 (by omega)))⟩)
theorem s_deg {n j : Nat} {t : Page} {M : Mem} {Q : Int32 → Mem → Prop} (hn : n ≤ 100) (hj : 17 + 4 * j ≤ n) (e1 : M 109 1 = nI n) (e2 : M 110 = t) (u : upTo t (17 + 4 * j)) (k : Q (nI (deg t j)) M) : wp_X3_degreesOfPin (nI j) M Q := by
  simp only [wp_X3_degreesOfPin, forall_eq]
  have a : (13 : Int32) + 4 * nI j = nI (13 + 4 * j) := by
    have : (4 : Int32) * nI j = nI (4 * j) := nI_mul 4 j
    rw [this]; exact nI_add 13 _
  have b : nI (13 + 4 * j) + 4 = nI (17 + 4 * j) := by rw [show (4 : Int32) = nI 4 from rfl, nI_addn]; congr 1; omega
  rw [a, b, nI_1, show 13 + 4 * j + 1 = 14 + 4 * j by omega]
  exact s_num hn (show 17 + 4 * j = 14 + 4 * j + 3 by omega) (by decide) hj e1 e2 (fun i hi => u.dig (by omega) (by omega) (by omega)) k
/-- a digit of a place -/
theorem s_placeFits {i n : Nat} {t : Page} {M : Mem} {Q : Int32 → Mem → Prop} (hn : n ≤ 100) (h13 : 13 ≤ i) (h93 : i < 93) (hq : (i - 13) % 4 ≠ 0) (hi : i < n) (e1 : M 109 1 = nI n) (e2 : M 110 = t) (u : upTo t i) (d : isD t i)
    (k1 : OKp t ((i - 13) / 4) ((i - 13) % 4 - 1) → Q 1 M) (k0 : ¬ OKp t ((i - 13) / 4) ((i - 13) % 4 - 1) → Q 0 M) : wp_X3_placeDigitFits (nI i) M Q := by
  simp only [wp_X3_placeDigitFits, forall_eq]
  have b : nI i - 13 = nI (i - 13) := by rw [show (13 : Int32) = nI 13 from rfl, Int32.sub_eq_iff_eq_add, nI_addn]; congr 1; omega
  have b2 : nI (i - 13) / 4 = nI ((i - 13) / 4) := nI_div (b := 4) (by omega) (by decide) (by decide)
  rw [b, b2]
  obtain ⟨k, hk⟩ : ∃ k, (i - 13) / 4 = k := ⟨_, rfl⟩
  obtain ⟨m, hm⟩ : ∃ m, (i - 13) % 4 - 1 = m := ⟨_, rfl⟩
  have him : i = 14 + 4 * k + m := by omega
  have m2 : m ≤ 2 := by omega
  rw [hk] at k1 k0 ⊢
  rw [hm] at k1 k0
  have b3 : (13 : Int32) + 4 * nI k = nI (13 + 4 * k) := by
    have : (4 : Int32) * nI k = nI (4 * k) := nI_mul 4 k
    rw [this]; exact nI_add 13 _
  have b4 : nI (13 + 4 * k) + 4 = nI (17 + 4 * k) := by rw [show (4 : Int32) = nI 4 from rfl, nI_addn]; congr 1; omega
  have D : ∀ j, j < m + 1 → isD t (14 + 4 * k + j) := fun j hj => by
    by_cases c : 14 + 4 * k + j = i
    · rw [c]; exact d
    · exact u.dig (by omega) (by omega) (by omega)
  rw [b3, b4, nI_1, nI_1, show 13 + 4 * k + 1 = 14 + 4 * k by omega]
  refine s_span (by omega) (by omega) (by omega) (s_num hn (show i + 1 = 14 + 4 * k + (m + 1) by omega) (by omega) (by omega) e1 e2 D ?_)
  have ns := num_span (r := 2 - m) D (by omega)
  rw [show 17 + 4 * k - 1 - i = 2 - m by omega]
  have p := pow4 (m := 2 - m) (by omega)
  have F := free_iff (d := deg t) (lo := num t (14 + 4 * k) (m + 1) * 10 ^ (2 - m)) (hi := min 179 (num t (14 + 4 * k) (m + 1) * 10 ^ (2 - m) + 10 ^ (2 - m) - 1)) (k := k) (u.dist (by omega))
  have key : OKp t k m ↔ ∃ u, num t (14 + 4 * k) (m + 1) * 10 ^ (2 - m) ≤ u ∧ u ≤ min 179 (num t (14 + 4 * k) (m + 1) * 10 ^ (2 - m) + 10 ^ (2 - m) - 1) ∧ ∀ j, j < k → deg t j ≠ u := by
    unfold OKp
    constructor
    · rintro ⟨u, a1, a2, a3, a4⟩; exact ⟨u, a1, by omega, a4⟩
    · rintro ⟨u, a1, a2, a4⟩; exact ⟨u, a1, by omega, by omega, a4⟩
  rw [nI_mul]
  have es : nI (num t (14 + 4 * k) (m + 1) * 10 ^ (2 - m)) + nI (10 ^ (2 - m)) - 1 = nI (num t (14 + 4 * k) (m + 1) * 10 ^ (2 - m) + 10 ^ (2 - m) - 1) := by
    rw [nI_addn, show (1 : Int32) = nI 1 from rfl, Int32.sub_eq_iff_eq_add, nI_addn]; congr 1; omega
  rw [es]
  generalize num t (14 + 4 * k) (m + 1) * 10 ^ (2 - m) = lo at *
  generalize 10 ^ (2 - m) = sp at *
  have d179 : (179 : Int32) = nI 179 := rfl
  have el : (if nI (lo + sp - 1) < 179 then nI (lo + sp - 1) else 179) = nI (min 179 (lo + sp - 1)) := by
    have lt : nI (lo + sp - 1) < nI 179 ↔ lo + sp - 1 < 179 := nI_ltI (by omega) (by omega)
    rw [d179]
    by_cases c : lo + sp - 1 < 179
    · rw [if_pos (lt.mpr c), Nat.min_eq_right (by omega)]
    · rw [if_neg (fun z => c (lt.mp z)), Nat.min_eq_left (by omega)]
  rw [el]
  generalize hhi : min 179 (lo + sp - 1) = hi at *
  have hi1000 : hi ≤ 179 := by rw [← hhi]; exact Nat.min_le_left _ _
  clear hhi
  have cl : ∀ k, cntI (deg t) lo hi k ≤ k := by
    intro k
    induction k with
    | zero => exact Nat.le_refl _
    | succ k ih => unfold cntI; split <;> omega
  have ev : (nI hi - nI lo + 1).toInt = (hi : Int) - lo + 1 := by
    have a : (nI hi - nI lo).toInt = (hi : Int) - lo := by
      rw [i32_sub (by rw [nI_toInt (by omega), nI_toInt (by omega)]; omega) (by rw [nI_toInt (by omega), nI_toInt (by omega)]; omega), nI_toInt (by omega), nI_toInt (by omega)]
    rw [i32_add (by rw [a, i1]; omega) (by rw [a, i1]; omega), a, i1]
  refine ⟨fun w z M' => M' = M ∧ ∃ j, j ≤ k ∧ w = nI j ∧ z.toInt = (hi : Int) - lo + 1 - cntI (deg t) lo hi j, fun w _ _ => 1000 - w.toNatClampNeg, ⟨rfl, 0, Nat.zero_le _, rfl, by rw [ev]; show _ = (hi : Int) - lo + 1 - 0; omega⟩, ?_⟩
  rintro w z M' ⟨rfl, j, hj, rfl, hz⟩
  have c1 := cl j
  rw [nI_leI (by omega) (by omega)]
  refine ⟨fun c => ?_, fun c => ?_⟩
  · have : j = k := by omega
    subst this
    rw [i32_le, i0, hz]
    exact ⟨fun c2 => k0 (fun y => by have := F.mp (key.mp y); omega), fun c2 => k1 (key.mpr (F.mpr ⟨by omega, by omega⟩))⟩
  · have dl := u.place (k := j) (by omega)
    refine s_deg hn (by omega) e1 e2 (fun x hx => u x (by omega)) ?_
    rw [nI_ltI (by omega) (by omega), nI_ltI (by omega) (by omega)]
    have cs : cntI (deg t) lo hi (j + 1) = cntI (deg t) lo hi j + (if lo ≤ deg t j ∧ deg t j ≤ hi then 1 else 0) := rfl
    refine ⟨fun c2 => ⟨⟨rfl, j + 1, by omega, nI_1 j, ?_⟩, mu_lt (by omega) (by decide)⟩, fun c2 => ⟨fun c3 => ⟨⟨rfl, j + 1, by omega, nI_1 j, ?_⟩, mu_lt (by omega) (by decide)⟩, fun c3 => ⟨⟨rfl, j + 1, by omega, nI_1 j, ?_⟩, mu_lt (by omega) (by decide)⟩⟩⟩
    · rw [cs, if_neg (by omega), hz]; rfl
    · rw [cs, if_neg (by omega), hz]; rfl
    · have dm : (-1 : Int32).toInt = -1 := rfl
      rw [cs, if_pos (by omega), i32_add (by rw [dm]; omega) (by rw [dm]; omega), dm, hz]; omega

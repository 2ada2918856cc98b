/-! THE TEXT -/
theorem char_id : ∀ a, a < 256 → vp_nar .char (((nI a).toUInt32 % 65536).toInt32) = nI a := by decide +kernel
theorem d255 : (255 : Int32).toInt = 255 := rfl
theorem d100 : (100 : Int32).toInt = 100 := rfl

/-! THE TEXT, PURE: which sign may stand where -/
def isD (t : Page) (j : Nat) : Prop := 48 ≤ (t j).toInt ∧ (t j).toInt ≤ 57
def dg (t : Page) (j : Nat) : Nat := ((t j).toInt - 48).toNat
def num (t : Page) (a : Nat) : Nat → Nat
  | 0 => 0
  | m + 1 => 10 * num t a m + dg t (a + m)
theorem dg_val {t : Page} {j : Nat} (h : isD t j) : (t j - 48).toInt = dg t j ∧ dg t j ≤ 9 := by
  have d48 : (48 : Int32).toInt = 48 := rfl
  obtain ⟨h1, h2⟩ := h
  rw [i32_sub (by rw [d48]; omega) (by rw [d48]; omega), d48]
  unfold dg
  omega
theorem dg_nI {t : Page} {j : Nat} (h : isD t j) : t j - 48 = nI (dg t j) := by
  obtain ⟨h1, h2⟩ := dg_val h
  rw [i32_eq, h1, nI_toInt (by omega)]
theorem num_lt {t : Page} {a : Nat} : ∀ m, (∀ i, i < m → isD t (a + i)) → num t a m < 10 ^ m
  | 0, _ => Nat.zero_lt_one
  | m + 1, h => by
    have h1 := num_lt m (fun i hi => h i (by omega))
    have h2 := (dg_val (h m (by omega))).2
    unfold num
    rw [Nat.pow_succ]; omega
/-- the class's number -/
theorem s_num {a m e n : Nat} {t : Page} {M : Mem} {Q : Int32 → Mem → Prop} (hn : n ≤ 100) (he : e = a + m) (hm : m ≤ 4) (hl : e ≤ n) (e1 : M 109 1 = nI n) (e2 : M 110 = t) (hd : ∀ i, i < m → isD t (a + i)) (k : Q (nI (num t a m)) M) : wp_X3_number (nI a) (nI e) M Q := by
  subst he
  refine ⟨fun w z M' => M' = M ∧ ∃ i, i ≤ m ∧ w = nI (a + i) ∧ z = nI (num t a i), fun w _ _ => 1000 - w.toNatClampNeg, ⟨rfl, 0, Nat.zero_le _, rfl, rfl⟩, ?_⟩
  rintro w z M' ⟨rfl, i, hi, rfl, rfl⟩
  simp only [forall_eq]
  rw [nI_leI (by omega) (by omega), e1, nI_leI (by omega) (by omega), e2, nI_clamp (by omega)]
  refine ⟨fun c => ?_, fun c => ⟨fun c2 => absurd c2 (by omega), fun _ => ⟨vp_in_nI (by omega) (by decide), ⟨trivial, i + 1, by omega, ?_, ?_⟩, ?_⟩⟩⟩
  · have : i = m := by omega
    subst this; exact k
  · rw [nI_1]; congr 1
  · rw [dg_nI (hd i (by omega)), show (10 : Int32) = nI 10 from rfl, nI_mul, nI_addn]; rfl
  · rw [nI_1, nI_clamp (by omega)]; omega
/-- the class's span -/
theorem s_span {i e : Nat} {M : Mem} {Q : Int32 → Mem → Prop} (h : i < e) (h2 : e ≤ i + 4) (h3 : i ≤ 100) (k : Q (nI (10 ^ (e - 1 - i))) M) : wp_X3_span (nI i) (nI e) M Q := by
  simp only [wp_X3_span, forall_eq]
  rw [nI_1]
  refine ⟨fun w z M' => M' = M ∧ ∃ j, i + 1 ≤ j ∧ j ≤ e ∧ w = nI j ∧ z = nI (10 ^ (j - 1 - i)), fun w _ _ => 1000 - w.toNatClampNeg, ⟨rfl, i + 1, Nat.le_refl _, by omega, rfl, by rw [show i + 1 - 1 - i = 0 by omega]; rfl⟩, ?_⟩
  rintro w z M' ⟨rfl, j, h4, h5, rfl, rfl⟩
  rw [nI_leI (by omega) (by omega)]
  refine ⟨fun c => ?_, fun c => ⟨⟨rfl, j + 1, by omega, by omega, nI_1 j, ?_⟩, mu_lt (by omega) (by decide)⟩⟩
  · have : j = e := by omega
    subst this; exact k
  · rw [show j + 1 - 1 - i = (j - 1 - i) + 1 by omega, Nat.pow_succ, show (10 : Int32) = nI 10 from rfl, nI_mul]
def fitsN (v s lo hi : Nat) : Prop := v * s ≤ hi ∧ lo ≤ v * s + s - 1
/-- the class's beginning of a number -/
theorem s_beg {v s lo hi : Nat} {M : Mem} {Q : Int32 → Mem → Prop} (hs : 0 < s) (h1 : v * s < 100000) (h2 : s ≤ 1000) (h3 : lo < 100000) (h4 : hi < 100000) (k1 : fitsN v s lo hi → Q 1 M) (k0 : ¬ fitsN v s lo hi → Q 0 M) : wp_X3_beginsNumber (nI v) (nI s) (nI lo) (nI hi) M Q := by
  simp only [wp_X3_beginsNumber, forall_eq]
  have e : nI (v * s) + nI s - 1 = nI (v * s + s - 1) := by
    rw [show (1 : Int32) = nI 1 from rfl, nI_addn, Int32.sub_eq_iff_eq_add, nI_addn]; congr 1; omega
  rw [nI_mul, e, nI_ltI (by omega) (by omega), nI_ltI (by omega) (by omega)]
  unfold fitsN at k1 k0
  exact ⟨fun c => k0 (by omega), fun c => ⟨fun c2 => k0 (by omega), fun c2 => k1 (by omega)⟩⟩
/-! counting free degrees -/
def cntI (d : Nat → Nat) (lo hi : Nat) : Nat → Nat
  | 0 => 0
  | k + 1 => cntI d lo hi k + (if lo ≤ d k ∧ d k ≤ hi then 1 else 0)
def inL (d : Nat → Nat) (v : Nat) : Nat → Bool
  | 0 => false
  | k + 1 => inL d v k || decide (d k = v)
theorem inL_iff {d : Nat → Nat} {v : Nat} : ∀ {k}, inL d v k = true ↔ ∃ j, j < k ∧ d j = v
  | 0 => ⟨fun h => Bool.noConfusion h, fun ⟨j, h, _⟩ => absurd h (by omega)⟩
  | k + 1 => by
    show (inL d v k || decide (d k = v)) = true ↔ _
    rw [Bool.or_eq_true, inL_iff, decide_eq_true_iff]
    constructor
    · rintro (⟨j, h, e⟩ | e)
      · exact ⟨j, by omega, e⟩
      · exact ⟨k, by omega, e⟩
    · rintro ⟨j, h, e⟩
      by_cases c : j = k
      · subst c; exact Or.inr e
      · exact Or.inl ⟨j, by omega, e⟩
def cov (d : Nat → Nat) (lo k : Nat) : Nat → Nat
  | 0 => 0
  | w + 1 => cov d lo k w + (if inL d (lo + w) k = true then 1 else 0)
theorem cov_le {d : Nat → Nat} {lo k : Nat} : ∀ w, cov d lo k w ≤ w
  | 0 => Nat.le_refl _
  | w + 1 => by
    have := cov_le (d := d) (lo := lo) (k := k) w
    unfold cov
    split <;> omega
theorem cov_all {d : Nat → Nat} {lo k : Nat} : ∀ w, cov d lo k w = w ↔ ∀ x, x < w → inL d (lo + x) k = true
  | 0 => ⟨fun _ x h => absurd h (by omega), fun _ => rfl⟩
  | w + 1 => by
    have ih := cov_all (d := d) (lo := lo) (k := k) w
    have le := cov_le (d := d) (lo := lo) (k := k) w
    unfold cov
    by_cases c : inL d (lo + w) k = true
    · rw [if_pos c]
      constructor
      · intro h x hx
        by_cases e : x = w
        · subst e; exact c
        · exact ih.mp (by omega) x (by omega)
      · intro h
        have := ih.mpr (fun x hx => h x (by omega))
        omega
    · rw [if_neg c]
      constructor
      · intro h; omega
      · intro h; exact absurd (h w (by omega)) c
theorem cov_step {d : Nat → Nat} {lo k : Nat} (hf : inL d (d k) k = false) : ∀ w, cov d lo (k + 1) w = cov d lo k w + (if lo ≤ d k ∧ d k < lo + w then 1 else 0)
  | 0 => by rw [if_neg (by omega)]; rfl
  | w + 1 => by
    have ih := cov_step (lo := lo) hf w
    unfold cov
    rw [ih]
    have e : inL d (lo + w) (k + 1) = (inL d (lo + w) k || decide (d k = lo + w)) := rfl
    by_cases c : d k = lo + w
    · have a : inL d (lo + w) k = false := by rw [← c]; exact hf
      rw [e, a, if_neg (by omega), if_pos (by rw [decide_eq_true c]; rfl), if_neg (by decide), if_pos (by omega)]
    · have a : decide (d k = lo + w) = false := decide_eq_false c
      rw [e, a, Bool.or_false]
      by_cases c2 : lo ≤ d k ∧ d k < lo + w
      · rw [if_pos c2, if_pos (show lo ≤ d k ∧ d k < lo + (w + 1) by omega)]; omega
      · rw [if_neg c2, if_neg (show ¬ (lo ≤ d k ∧ d k < lo + (w + 1)) by omega)]; omega
theorem cnt_cov {d : Nat → Nat} {lo hi : Nat} (w : Nat) (hw : hi + 1 = lo + w) : ∀ k, (∀ i j, i < k → j < k → d i = d j → i = j) → cntI d lo hi k = cov d lo k w
  | 0, _ => by
    have : ∀ w, cov d lo 0 w = 0 := by
      intro w
      induction w with
      | zero => rfl
      | succ w ih => unfold cov; rw [ih]; rfl
    rw [this]; rfl
  | k + 1, hd => by
    have ih := cnt_cov w hw k (fun i j a b => hd i j (by omega) (by omega))
    have hf : inL d (d k) k = false := by
      apply Bool.eq_false_iff.mpr
      intro h
      obtain ⟨j, hj, e⟩ := inL_iff.mp h
      have := hd j k (by omega) (by omega) e
      omega
    rw [cov_step hf]
    unfold cntI
    rw [ih]
    by_cases c : lo ≤ d k ∧ d k ≤ hi
    · rw [if_pos c, if_pos (by omega)]
    · rw [if_neg c, if_neg (by omega)]
/-- a free one is left, when the taken are fewer -/
theorem free_iff {d : Nat → Nat} {lo hi k : Nat} (hd : ∀ i j, i < k → j < k → d i = d j → i = j) : (∃ u, lo ≤ u ∧ u ≤ hi ∧ ∀ j, j < k → d j ≠ u) ↔ lo ≤ hi ∧ (cntI d lo hi k : Int) < (hi : Int) - lo + 1 := by
  by_cases c : lo ≤ hi
  · have e := cnt_cov (d := d) (lo := lo) (hi := hi) (hi + 1 - lo) (by omega) k hd
    have le := cov_le (d := d) (lo := lo) (k := k) (hi + 1 - lo)
    have al := cov_all (d := d) (lo := lo) (k := k) (hi + 1 - lo)
    constructor
    · rintro ⟨u, h1, h2, h3⟩
      refine ⟨c, ?_⟩
      rw [e]
      by_cases q : cov d lo k (hi + 1 - lo) = hi + 1 - lo
      · obtain ⟨j, hj, ej⟩ := inL_iff.mp (al.mp q (u - lo) (by omega))
        exact absurd (by rw [ej]; omega) (h3 j hj)
      · omega
    · rintro ⟨-, h⟩
      rw [e] at h
      have nq : ¬ ∀ x, x < hi + 1 - lo → inL d (lo + x) k = true := fun z => by
        have := al.mpr z
        omega
      apply Classical.byContradiction
      intro no
      apply nq
      intro x hx
      by_cases q : inL d (lo + x) k = true
      · exact q
      · exfalso
        apply no
        refine ⟨lo + x, by omega, by omega, fun j hj ej => q (inL_iff.mpr ⟨j, hj, ej⟩)⟩
  · constructor
    · rintro ⟨u, h1, h2, -⟩; omega
    · rintro ⟨h, -⟩; omega

def deg (t : Page) (j : Nat) : Nat := num t (14 + 4 * j) 3
/-- a place that begins so is still free -/
def OKp (t : Page) (k m : Nat) : Prop := ∃ u, num t (14 + 4 * k) (m + 1) * 10 ^ (2 - m) ≤ u ∧ u ≤ 179 ∧ u ≤ num t (14 + 4 * k) (m + 1) * 10 ^ (2 - m) + 10 ^ (2 - m) - 1 ∧ ∀ j, j < k → deg t j ≠ u
/-- the sign at i may stand there -/
def alw (t : Page) (i : Nat) : Prop :=
  (i = 0 → t 0 = 70) ∧ (i = 1 → t 1 = 43 ∨ t 1 = 45) ∧ (2 ≤ i → i < 4 → isD t i ∧ fitsN (num t 2 (i - 1)) (10 ^ (3 - i)) 0 90) ∧ (4 ≤ i → i < 7 → isD t i ∧ fitsN (num t 4 (i - 3)) (10 ^ (6 - i)) 60 900) ∧ (7 ≤ i → i < 13 → isD t i) ∧ i < 93 ∧ (13 ≤ i → (i - 13) % 4 = 0 → t i = 112) ∧ (13 ≤ i → (i - 13) % 4 ≠ 0 → isD t i ∧ OKp t ((i - 13) / 4) ((i - 13) % 4 - 1))
def upTo (t : Page) (s : Nat) : Prop := ∀ i, i < s → alw t i
theorem upTo.dig {t : Page} {s j : Nat} (h : upTo t s) (hj : j < s) (h2 : 2 ≤ j) (h3 : j < 13 ∨ (j - 13) % 4 ≠ 0) : isD t j := by
  obtain ⟨-, -, a, b, c, -, -, d⟩ := h j hj
  by_cases c1 : j < 4
  · exact (a h2 c1).1
  · by_cases c2 : j < 7
    · exact (b (by omega) c2).1
    · by_cases c3 : j < 13
      · exact c (by omega) c3
      · exact (d (by omega) (by omega)).1
theorem upTo.place {t : Page} {s k : Nat} (h : upTo t s) (hk : 17 + 4 * k ≤ s) : deg t k ≤ 179 ∧ ∀ j, j < k → deg t j ≠ deg t k := by
  obtain ⟨-, -, -, -, -, -, -, d⟩ := h (16 + 4 * k) (by omega)
  obtain ⟨-, u, h1, h2, h3, h4⟩ := d (by omega) (by omega)
  rw [show (16 + 4 * k - 13) / 4 = k by omega, show (16 + 4 * k - 13) % 4 - 1 = 2 by omega] at h1 h3
  rw [show (16 + 4 * k - 13) / 4 = k by omega] at h4
  have e : num t (14 + 4 * k) (2 + 1) = deg t k := rfl
  rw [e, Nat.sub_self, Nat.pow_zero, Nat.mul_one] at h1 h3
  have : u = deg t k := by omega
  subst this
  exact ⟨h2, h4⟩
theorem upTo.dist {t : Page} {s k : Nat} (h : upTo t s) (hk : 13 + 4 * k ≤ s) : ∀ i j, i < k → j < k → deg t i = deg t j → i = j := by
  intro i j hi hj e
  by_cases c : i < j
  · exact absurd e ((h.place (k := j) (by omega)).2 i c)
  · by_cases c2 : j < i
    · exact absurd e.symm ((h.place (k := i) (by omega)).2 j c2)
    · omega
theorem s_isD {i n : Nat} {t : Page} {M : Mem} {Q : Int32 → Mem → Prop} (hi : i < 100) (e2 : M 110 = t) (k1 : isD t i → Q 1 M) (k0 : ¬ isD t i → Q 0 M) : wp_X3_isDigit (nI i) M Q := by
  unfold wp_X3_isDigit
  have d48 : (48 : Int32).toInt = 48 := rfl
  have d57 : (57 : Int32).toInt = 57 := rfl
  rw [e2, nI_clamp (by omega), i32_lt, i32_lt, d48, d57]
  unfold isD at k1 k0
  exact ⟨vp_in_nI hi (by decide), fun c => k0 (by omega), fun c => ⟨vp_in_nI hi (by decide), fun c2 => k0 (by omega), fun c2 => k1 (by omega)⟩⟩
theorem pow4 {m : Nat} (h : m ≤ 3) : 0 < 10 ^ m ∧ 10 ^ m ≤ 1000 := by
  rcases (show m = 0 ∨ m = 1 ∨ m = 2 ∨ m = 3 by omega) with z | z | z | z <;> subst z <;> decide
theorem num_span {t : Page} {a m r : Nat} (hd : ∀ i, i < m → isD t (a + i)) (hr : m + r ≤ 3) : num t a m * 10 ^ r < 1000 := by
  have h := num_lt m hd
  have p := pow4 (m := r) (by omega)
  have h2 : num t a m * 10 ^ r < 10 ^ m * 10 ^ r := Nat.mul_lt_mul_of_pos_right h p.1
  rw [← Nat.pow_add] at h2
  have := (pow4 hr).2
  omega
/-- a digit of a setting -/
theorem s_setFits {i n : Nat} {t : Page} {M : Mem} {Q : Int32 → Mem → Prop} (hn : n ≤ 100) (h2 : 2 ≤ i) (h13 : i < 13) (hi : i < n) (e1 : M 109 1 = nI n) (e2 : M 110 = t) (u : upTo t i) (d : isD t i)
    (k1 : (i < 4 → fitsN (num t 2 (i - 1)) (10 ^ (3 - i)) 0 90) → (4 ≤ i → i < 7 → fitsN (num t 4 (i - 3)) (10 ^ (6 - i)) 60 900) → Q 1 M)
    (k0 : ¬ ((i < 4 → fitsN (num t 2 (i - 1)) (10 ^ (3 - i)) 0 90) ∧ (4 ≤ i → i < 7 → fitsN (num t 4 (i - 3)) (10 ^ (6 - i)) 60 900)) → Q 0 M) : wp_X3_settingDigitFits (nI i) M Q := by
  have dd : ∀ a m, 2 ≤ a → a + m ≤ i + 1 → i < 13 → ∀ j, j < m → isD t (a + j) := fun a m ha hm _ j hj => by
    by_cases c : a + j = i
    · rw [c]; exact d
    · exact u.dig (by omega) (by omega) (by omega)
  simp only [wp_X3_settingDigitFits, forall_eq]
  rw [nI_1, show (4 : Int32) = nI 4 from rfl, show (7 : Int32) = nI 7 from rfl, show (2 : Int32) = nI 2 from rfl, nI_leI (by omega) (by omega), nI_leI (by omega) (by omega)]
  refine ⟨fun c => ⟨fun c2 => k1 (fun z => absurd z (by omega)) (fun _ z => absurd z (by omega)), fun c2 => ?_⟩, fun c => ?_⟩
  · have D := dd 4 (i - 3) (by decide) (by omega) h13
    have ns := num_span (r := 6 - i) D (by omega)
    refine s_num hn (show i + 1 = 4 + (i - 3) by omega) (by omega) (by omega) e1 e2 D (s_span (by omega) (by omega) (by omega) ?_)
    rw [show 7 - 1 - i = 6 - i by omega]
    have p := pow4 (m := 6 - i) (by omega)
    exact s_beg (lo := 60) (hi := 900) p.1 (by omega) p.2 (by decide) (by decide) (fun f => ⟨rfl, k1 (fun z => absurd z (by omega)) (fun _ _ => f)⟩) (fun f => ⟨rfl, k0 (fun z => f (z.2 c (by omega)))⟩)
  · have D := dd 2 (i - 1) (by decide) (by omega) h13
    have ns := num_span (r := 3 - i) D (by omega)
    refine s_num hn (show i + 1 = 2 + (i - 1) by omega) (by omega) (by omega) e1 e2 D (s_span (by omega) (by omega) (by omega) ?_)
    rw [show 4 - 1 - i = 3 - i by omega]
    have p := pow4 (m := 3 - i) (by omega)
    exact s_beg (lo := 0) (hi := 90) p.1 (by omega) p.2 (by decide) (by decide) (fun f => ⟨rfl, k1 (fun _ => f) (fun z => absurd z c)⟩) (fun f => ⟨rfl, k0 (fun z => f (z.1 (by omega)))⟩)
theorem s_deg {n j : Nat} {t : Page} {M : Mem} {Q : Int32 → Mem → Prop} (hn : n ≤ 100) (hj : 17 + 4 * j ≤ n) (e1 : M 109 1 = nI n) (e2 : M 110 = t) (u : upTo t (17 + 4 * j)) (k : Q (nI (deg t j)) M) : wp_X3_degreesOfPin (nI j) M Q := by
  simp only [wp_X3_degreesOfPin, forall_eq]
  have a : (13 : Int32) + 4 * nI j = nI (13 + 4 * j) := by
    have : (4 : Int32) * nI j = nI (4 * j) := nI_mul 4 j
    rw [this]; exact nI_add 13 _
  have b : nI (13 + 4 * j) + 4 = nI (17 + 4 * j) := by rw [show (4 : Int32) = nI 4 from rfl, nI_addn]; congr 1; omega
  rw [a, b, nI_1, show 13 + 4 * j + 1 = 14 + 4 * j by omega]
  exact s_num hn (show 17 + 4 * j = 14 + 4 * j + 3 by omega) (by decide) hj e1 e2 (fun i hi => u.dig (by omega) (by omega) (by omega)) k
/-- a digit of a place -/
theorem s_placeFits {i n : Nat} {t : Page} {M : Mem} {Q : Int32 → Mem → Prop} (hn : n ≤ 100) (h13 : 13 ≤ i) (h93 : i < 93) (hq : (i - 13) % 4 ≠ 0) (hi : i < n) (e1 : M 109 1 = nI n) (e2 : M 110 = t) (u : upTo t i) (d : isD t i)
    (k1 : OKp t ((i - 13) / 4) ((i - 13) % 4 - 1) → Q 1 M) (k0 : ¬ OKp t ((i - 13) / 4) ((i - 13) % 4 - 1) → Q 0 M) : wp_X3_placeDigitFits (nI i) M Q := by
  simp only [wp_X3_placeDigitFits, forall_eq]
  have b : nI i - 13 = nI (i - 13) := by rw [show (13 : Int32) = nI 13 from rfl, Int32.sub_eq_iff_eq_add, nI_addn]; congr 1; omega
  have b2 : nI (i - 13) / 4 = nI ((i - 13) / 4) := nI_div (b := 4) (by omega) (by decide) (by decide)
  rw [b, b2]
  obtain ⟨k, hk⟩ : ∃ k, (i - 13) / 4 = k := ⟨_, rfl⟩
  obtain ⟨m, hm⟩ : ∃ m, (i - 13) % 4 - 1 = m := ⟨_, rfl⟩
  have him : i = 14 + 4 * k + m := by omega
  have m2 : m ≤ 2 := by omega
  rw [hk] at k1 k0 ⊢
  rw [hm] at k1 k0
  have b3 : (13 : Int32) + 4 * nI k = nI (13 + 4 * k) := by
    have : (4 : Int32) * nI k = nI (4 * k) := nI_mul 4 k
    rw [this]; exact nI_add 13 _
  have b4 : nI (13 + 4 * k) + 4 = nI (17 + 4 * k) := by rw [show (4 : Int32) = nI 4 from rfl, nI_addn]; congr 1; omega
  have D : ∀ j, j < m + 1 → isD t (14 + 4 * k + j) := fun j hj => by
    by_cases c : 14 + 4 * k + j = i
    · rw [c]; exact d
    · exact u.dig (by omega) (by omega) (by omega)
  rw [b3, b4, nI_1, nI_1, show 13 + 4 * k + 1 = 14 + 4 * k by omega]
  refine s_span (by omega) (by omega) (by omega) (s_num hn (show i + 1 = 14 + 4 * k + (m + 1) by omega) (by omega) (by omega) e1 e2 D ?_)
  have ns := num_span (r := 2 - m) D (by omega)
  rw [show 17 + 4 * k - 1 - i = 2 - m by omega]
  have p := pow4 (m := 2 - m) (by omega)
  have F := free_iff (d := deg t) (lo := num t (14 + 4 * k) (m + 1) * 10 ^ (2 - m)) (hi := min 179 (num t (14 + 4 * k) (m + 1) * 10 ^ (2 - m) + 10 ^ (2 - m) - 1)) (k := k) (u.dist (by omega))
  have key : OKp t k m ↔ ∃ u, num t (14 + 4 * k) (m + 1) * 10 ^ (2 - m) ≤ u ∧ u ≤ min 179 (num t (14 + 4 * k) (m + 1) * 10 ^ (2 - m) + 10 ^ (2 - m) - 1) ∧ ∀ j, j < k → deg t j ≠ u := by
    unfold OKp
    constructor
    · rintro ⟨u, a1, a2, a3, a4⟩; exact ⟨u, a1, by omega, a4⟩
    · rintro ⟨u, a1, a2, a4⟩; exact ⟨u, a1, by omega, by omega, a4⟩
  rw [nI_mul]
  have es : nI (num t (14 + 4 * k) (m + 1) * 10 ^ (2 - m)) + nI (10 ^ (2 - m)) - 1 = nI (num t (14 + 4 * k) (m + 1) * 10 ^ (2 - m) + 10 ^ (2 - m) - 1) := by
    rw [nI_addn, show (1 : Int32) = nI 1 from rfl, Int32.sub_eq_iff_eq_add, nI_addn]; congr 1; omega
  rw [es]
  generalize num t (14 + 4 * k) (m + 1) * 10 ^ (2 - m) = lo at *
  generalize 10 ^ (2 - m) = sp at *
  have d179 : (179 : Int32) = nI 179 := rfl
  have el : (if nI (lo + sp - 1) < 179 then nI (lo + sp - 1) else 179) = nI (min 179 (lo + sp - 1)) := by
    have lt : nI (lo + sp - 1) < nI 179 ↔ lo + sp - 1 < 179 := nI_ltI (by omega) (by omega)
    rw [d179]
    by_cases c : lo + sp - 1 < 179
    · rw [if_pos (lt.mpr c), Nat.min_eq_right (by omega)]
    · rw [if_neg (fun z => c (lt.mp z)), Nat.min_eq_left (by omega)]
  rw [el]
  generalize hhi : min 179 (lo + sp - 1) = hi at *
  have hi1000 : hi ≤ 179 := by rw [← hhi]; exact Nat.min_le_left _ _
  clear hhi
  have cl : ∀ k, cntI (deg t) lo hi k ≤ k := by
    intro k
    induction k with
    | zero => exact Nat.le_refl _
    | succ k ih => unfold cntI; split <;> omega
  have ev : (nI hi - nI lo + 1).toInt = (hi : Int) - lo + 1 := by
    have a : (nI hi - nI lo).toInt = (hi : Int) - lo := by
      rw [i32_sub (by rw [nI_toInt (by omega), nI_toInt (by omega)]; omega) (by rw [nI_toInt (by omega), nI_toInt (by omega)]; omega), nI_toInt (by omega), nI_toInt (by omega)]
    rw [i32_add (by rw [a, i1]; omega) (by rw [a, i1]; omega), a, i1]
  refine ⟨fun w z M' => M' = M ∧ ∃ j, j ≤ k ∧ w = nI j ∧ z.toInt = (hi : Int) - lo + 1 - cntI (deg t) lo hi j, fun w _ _ => 1000 - w.toNatClampNeg, ⟨rfl, 0, Nat.zero_le _, rfl, by rw [ev]; show _ = (hi : Int) - lo + 1 - 0; omega⟩, ?_⟩
  rintro w z M' ⟨rfl, j, hj, rfl, hz⟩
  have c1 := cl j
  rw [nI_leI (by omega) (by omega)]
  refine ⟨fun c => ?_, fun c => ?_⟩
  · have : j = k := by omega
    subst this
    rw [i32_le, i0, hz]
    exact ⟨fun c2 => k0 (fun y => by have := F.mp (key.mp y); omega), fun c2 => k1 (key.mpr (F.mpr ⟨by omega, by omega⟩))⟩
  · have dl := u.place (k := j) (by omega)
    refine s_deg hn (by omega) e1 e2 (fun x hx => u x (by omega)) ?_
    rw [nI_ltI (by omega) (by omega), nI_ltI (by omega) (by omega)]
    have cs : cntI (deg t) lo hi (j + 1) = cntI (deg t) lo hi j + (if lo ≤ deg t j ∧ deg t j ≤ hi then 1 else 0) := rfl
    refine ⟨fun c2 => ⟨⟨rfl, j + 1, by omega, nI_1 j, ?_⟩, mu_lt (by omega) (by decide)⟩, fun c2 => ⟨fun c3 => ⟨⟨rfl, j + 1, by omega, nI_1 j, ?_⟩, mu_lt (by omega) (by decide)⟩, fun c3 => ⟨⟨rfl, j + 1, by omega, nI_1 j, ?_⟩, mu_lt (by omega) (by decide)⟩⟩⟩
    · rw [cs, if_neg (by omega), hz]; rfl
    · rw [cs, if_neg (by omega), hz]; rfl
    · have dm : (-1 : Int32).toInt = -1 := rfl
      rw [cs, if_pos (by omega), i32_add (by rw [dm]; omega) (by rw [dm]; omega), dm, hz]; omega

def compl (n : Nat) : Prop := 13 ≤ n ∧ (n - 13) % 4 = 0
/-- s is where the first error is -/
def errAt (t : Page) (n s : Nat) : Prop := s ≤ n ∧ upTo t s ∧ (s < n → ¬ alw t s) ∧ (s = n → ¬ compl n)
theorem errAt.uniq {t : Page} {n s s' : Nat} (h : errAt t n s) (h' : errAt t n s') : s = s' := by
  obtain ⟨a1, a2, a3, -⟩ := h
  obtain ⟨b1, b2, b3, -⟩ := h'
  by_cases c : s < s'
  · exact absurd (b2 s c) (a3 (by omega))
  · by_cases c2 : s' < s
    · exact absurd (a2 s' c2) (b3 (by omega))
    · omega
theorem errAt.not {t : Page} {n s : Nat} (h : errAt t n s) : ¬ (upTo t n ∧ compl n) := by
  rintro ⟨u, c⟩
  obtain ⟨a1, a2, a3, a4⟩ := h
  by_cases e : s = n
  · exact a4 e c
  · exact a3 (by omega) (u s (by omega))
theorem eqn {x y : Nat} (hx : x < 2147483648) (hy : y < 2147483648) : nI x = nI y ↔ x = y := by rw [i32_eq, nI_toInt hx, nI_toInt hy]; omega
theorem s_allowed {i n : Nat} {t : Page} {M : Mem} {Q : Int32 → Mem → Prop} (hn : n ≤ 100) (hi : i < n) (e1 : M 109 1 = nI n) (e2 : M 110 = t) (u : upTo t i) (k1 : alw t i → Q 1 M) (k0 : ¬ alw t i → Q 0 M) : wp_X3_isAllowed (nI i) M Q := by
  simp only [wp_X3_isAllowed, forall_eq]
  rw [show (2 : Int32) = nI 2 from rfl, show (13 : Int32) = nI 13 from rfl, show (93 : Int32) = nI 93 from rfl, nI_leI (by omega) (by omega), nI_leI (by omega) (by omega), nI_ltI (by omega) (by omega), nI_clamp (by omega), e2]
  have z : nI i = 0 ↔ i = 0 := eqn (y := 0) (by omega) (by omega)
  have vi : vp_in (nI i) 100 := vp_in_nI (by omega) (by decide)
  rw [z]
  refine ⟨fun c0 => ⟨fun c2 => ⟨fun c13 => ⟨fun c93 => ?_, fun c93 => k0 (fun y => by obtain ⟨-, -, -, -, -, y, -⟩ := y; omega)⟩, fun c13 => ?_⟩, fun c2 => ⟨vi, fun c => ?_, fun c => ⟨vi, fun c' => ?_, fun c' => ?_⟩⟩⟩, fun c0 => ⟨vi, fun c => ?_, fun c => ?_⟩⟩
  · have b : nI i - nI 13 = nI (i - 13) := by rw [Int32.sub_eq_iff_eq_add, nI_addn]; congr 1; omega
    have b2 : nI (i - 13) - nI (i - 13) / 4 * 4 = nI ((i - 13) % 4) := nI_mod (b := 4) (by omega) (by decide) (by decide)
    have z4 : nI ((i - 13) % 4) = 0 ↔ (i - 13) % 4 = 0 := eqn (y := 0) (by omega) (by omega)
    rw [b, b2, z4]
    refine ⟨fun c4 => s_isD (n := n) (by omega) e2 (fun d => ⟨fun y => absurd y (by decide), fun _ => ?_⟩) (fun d => ⟨fun _ => k0 (fun y => ?_), fun y => absurd rfl y⟩), fun c4 => ⟨vi, fun c => k0 (fun y => ?_), fun c => k1 ?_⟩⟩
    · refine s_placeFits hn c13 c93 c4 hi e1 e2 u d (fun f => ⟨fun y => absurd y (by decide), fun _ => k1 ?_⟩) (fun f => ⟨fun _ => k0 (fun y => ?_), fun y => absurd rfl y⟩)
      · refine ⟨fun h => absurd h (by omega), fun h => absurd h (by omega), fun _ h => absurd h (by omega), fun _ h => absurd h (by omega), fun _ h => absurd h (by omega), c93, fun _ h => absurd h c4, fun _ _ => ⟨d, f⟩⟩
      · obtain ⟨-, -, -, -, -, -, -, y⟩ := y
        exact f (y c13 c4).2
    · obtain ⟨-, -, -, -, -, -, -, y⟩ := y
      exact d (y c13 c4).1
    · obtain ⟨-, -, -, -, -, -, y, -⟩ := y
      exact c (y c13 c4)
    · refine ⟨fun h => absurd h (by omega), fun h => absurd h (by omega), fun _ h => absurd h (by omega), fun _ h => absurd h (by omega), fun _ h => absurd h (by omega), c93, fun _ _ => c, fun _ h => absurd c4 h⟩
  · refine s_isD (n := n) (by omega) e2 (fun d => ⟨fun y => absurd y (by decide), fun _ => ?_⟩) (fun d => ⟨fun _ => k0 (fun y => ?_), fun y => absurd rfl y⟩)
    · refine s_setFits hn (by omega) (by omega) hi e1 e2 u d (fun f1 f2 => ⟨fun y => absurd y (by decide), fun _ => k1 ?_⟩) (fun f => ⟨fun _ => k0 (fun y => ?_), fun y => absurd rfl y⟩)
      · refine ⟨fun h => absurd h (by omega), fun h => absurd h (by omega), fun _ h => ⟨d, f1 h⟩, fun h1 h2 => ⟨d, f2 h1 h2⟩, fun _ _ => d, by omega, fun h => absurd h (by omega), fun h => absurd h (by omega)⟩
      · obtain ⟨-, -, y1, y2, -⟩ := y
        exact f ⟨fun h => (y1 (by omega) h).2, fun h1 h2 => (y2 h1 h2).2⟩
    · obtain ⟨-, -, y1, y2, y3, -⟩ := y
      by_cases h4 : i < 4
      · exact d (y1 (by omega) h4).1
      · by_cases h7 : i < 7
        · exact d (y2 (by omega) h7).1
        · exact d (y3 (by omega) (by omega))
  · have : i = 1 := by omega
    subst this
    exact k1 ⟨fun h => absurd h (by omega), fun _ => Or.inl c, fun h => absurd h (by omega), fun h => absurd h (by omega), fun h => absurd h (by omega), by omega, fun h => absurd h (by omega), fun h => absurd h (by omega)⟩
  · have : i = 1 := by omega
    subst this
    exact k0 (fun y => by obtain ⟨-, y, -⟩ := y; rcases y rfl with w | w; exact c w; exact c' w)
  · have : i = 1 := by omega
    subst this
    exact k1 ⟨fun h => absurd h (by omega), fun _ => Or.inr c', fun h => absurd h (by omega), fun h => absurd h (by omega), fun h => absurd h (by omega), by omega, fun h => absurd h (by omega), fun h => absurd h (by omega)⟩
  · subst c0
    exact k0 (fun y => c (y.1 rfl))
  · subst c0
    exact k1 ⟨fun _ => c, fun h => absurd h (by omega), fun h => absurd h (by omega), fun h => absurd h (by omega), fun h => absurd h (by omega), by omega, fun h => absurd h (by omega), fun h => absurd h (by omega)⟩
/-- the class's first error -/
theorem s_firstError {n : Nat} {t : Page} {M : Mem} {Q : Int32 → Mem → Prop} (hn : n ≤ 100) (e1 : M 109 1 = nI n) (e2 : M 110 = t) (kE : ∀ s, errAt t n s → Q (nI s) M) (kN : upTo t n → compl n → Q (-9) M) : wp_X3_firstError M Q := by
  refine ⟨fun w M' => M' = M ∧ ∃ i, i ≤ n ∧ w = nI i ∧ upTo t i, fun w _ => 1000 - w.toNatClampNeg, ⟨rfl, 0, Nat.zero_le _, rfl, fun j hj => absurd hj (by omega)⟩, ?_⟩
  rintro w M' ⟨rfl, i, hi, rfl, u⟩
  simp only [forall_eq]
  rw [e1, nI_leI (by omega) (by omega), show (13 : Int32) = nI 13 from rfl, nI_ltI (by omega) (by omega)]
  refine ⟨fun c => ⟨fun c2 => ?_, fun c2 => ?_⟩, fun c => ?_⟩
  · have : i = n := by omega
    subst this
    exact kE i ⟨Nat.le_refl _, u, fun h => absurd h (by omega), fun _ h => absurd h.1 (by omega)⟩
  · have : i = n := by omega
    subst this
    have b : nI i - nI 13 = nI (i - 13) := by rw [Int32.sub_eq_iff_eq_add, nI_addn]; congr 1; omega
    have b2 : nI (i - 13) - nI (i - 13) / 4 * 4 = nI ((i - 13) % 4) := nI_mod (b := 4) (by omega) (by decide) (by decide)
    have z4 : nI ((i - 13) % 4) = 0 ↔ (i - 13) % 4 = 0 := eqn (y := 0) (by omega) (by omega)
    rw [b, b2, z4]
    exact ⟨fun h => kE i ⟨Nat.le_refl _, u, fun h => absurd h (by omega), fun _ q => h q.2⟩, fun h => kN u ⟨by omega, h⟩⟩
  · refine s_allowed hn (by omega) e1 e2 u (fun a => ⟨fun _ => ⟨⟨rfl, i + 1, by omega, nI_1 i, fun j hj => ?_⟩, mu_lt (by omega) (by decide)⟩, fun y => absurd y (by decide)⟩) (fun a => ⟨fun y => absurd rfl y, fun _ => ?_⟩)
    · by_cases e : j = i
      · subst e; exact a
      · exact u j (by omega)
    · exact kE i ⟨hi, u, fun _ => a, fun h => absurd h (by omega)⟩

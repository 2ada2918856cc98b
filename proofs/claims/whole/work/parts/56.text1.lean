/-! THE TEXT, PURE: which sign may stand where -/
def isD (t : Page) (j : Nat) : Prop := 48 ≤ (t j).toInt ∧ (t j).toInt ≤ 57
def dg (t : Page) (j : Nat) : Nat := ((t j).toInt - 48).toNat
def num (t : Page) (a : Nat) : Nat → Nat
  | 0 => 0
  | m + 1 => 10 * num t a m + dg t (a + m)
theorem dg_val {t : Page} {j : Nat} (h : isD t j) : (t j - 48).toInt = dg t j ∧ dg t j ≤ 9 := by
  have d48 : (48 : Int32).toInt = 48 := rfl
  obtain ⟨h1, h2⟩ := h
  rw [i32_sub (by rw [d48]; omega) (by rw [d48]; omega), d48]
  unfold dg
  omega
theorem dg_nI {t : Page} {j : Nat} (h : isD t j) : t j - 48 = nI (dg t j) := by
  obtain ⟨h1, h2⟩ := dg_val h
  rw [i32_eq, h1, nI_toInt (by omega)]
theorem num_lt {t : Page} {a : Nat} : ∀ m, (∀ i, i < m → isD t (a + i)) → num t a m < 10 ^ m
  | 0, _ => Nat.zero_lt_one
  | m + 1, h => by
    have h1 := num_lt m (fun i hi => h i (by omega))
    have h2 := (dg_val (h m (by omega))).2
    unfold num
    rw [Nat.pow_succ]; omega
/-- the class's number -/
theorem s_num {a m e n : Nat} {t : Page} {M : Mem} {Q : Int32 → Mem → Prop} (hn : n ≤ 100) (he : e = a + m) (hm : m ≤ 4) (hl : e ≤ n) (e1 : M 109 1 = nI n) (e2 : M 110 = t) (hd : ∀ i, i < m → isD t (a + i)) (k : Q (nI (num t a m)) M) : wp_X3_number (nI a) (nI e) M Q := by
  subst he
  refine ⟨fun w z M' => M' = M ∧ ∃ i, i ≤ m ∧ w = nI (a + i) ∧ z = nI (num t a i), fun w _ _ => 1000 - w.toNatClampNeg, ⟨rfl, 0, Nat.zero_le _, rfl, rfl⟩, ?_⟩
  rintro w z M' ⟨rfl, i, hi, rfl, rfl⟩
  simp only [forall_eq]
  rw [nI_leI (by omega) (by omega), e1, nI_leI (by omega) (by omega), e2, nI_clamp (by omega)]
  refine ⟨fun c => ?_, fun c => ⟨fun c2 => absurd c2 (by omega), fun _ => ⟨vp_in_nI (by omega) (by decide), ⟨trivial, i + 1, by omega, ?_, ?_⟩, ?_⟩⟩⟩
  · have : i = m := by omega
    subst this; exact k
  · rw [nI_1]; congr 1
  · rw [dg_nI (hd i (by omega)), show (10 : Int32) = nI 10 from rfl, nI_mul, nI_addn]; rfl
  · rw [nI_1, nI_clamp (by omega)]; omega
/-- the class's span -/
theorem s_span {i e : Nat} {M : Mem} {Q : Int32 → Mem → Prop} (h : i < e) (h2 : e ≤ i + 4) (h3 : i ≤ 100) (k : Q (nI (10 ^ (e - 1 - i))) M) : wp_X3_span (nI i) (nI e) M Q := by
  simp only [wp_X3_span, forall_eq]
  rw [nI_1]
  refine ⟨fun w z M' => M' = M ∧ ∃ j, i + 1 ≤ j ∧ j ≤ e ∧ w = nI j ∧ z = nI (10 ^ (j - 1 - i)), fun w _ _ => 1000 - w.toNatClampNeg, ⟨rfl, i + 1, Nat.le_refl _, by omega, rfl, by rw [show i + 1 - 1 - i = 0 by omega]; rfl⟩, ?_⟩
  rintro w z M' ⟨rfl, j, h4, h5, rfl, rfl⟩
  rw [nI_leI (by omega) (by omega)]
  refine ⟨fun c => ?_, fun c => ⟨⟨rfl, j + 1, by omega, by omega, nI_1 j, ?_⟩, mu_lt (by omega) (by decide)⟩⟩
  · have : j = e := by omega
    subst this; exact k
  · rw [show j + 1 - 1 - i = (j - 1 - i) + 1 by omega, Nat.pow_succ, show (10 : Int32) = nI 10 from rfl, nI_mul]
def fitsN (v s lo hi : Nat) : Prop := v * s ≤ hi ∧ lo ≤ v * s + s - 1
/-- the class's beginning of a number -/
theorem s_beg {v s lo hi : Nat} {M : Mem} {Q : Int32 → Mem → Prop} (hs : 0 < s) (h1 : v * s < 100000) (h2 : s ≤ 1000) (h3 : lo < 100000) (h4 : hi < 100000) (k1 : fitsN v s lo hi → Q 1 M) (k0 : ¬ fitsN v s lo hi → Q 0 M) : wp_X3_beginsNumber (nI v) (nI s) (nI lo) (nI hi) M Q := by
  simp only [wp_X3_beginsNumber, forall_eq]
  have e : nI (v * s) + nI s - 1 = nI (v * s + s - 1) := by
    rw [show (1 : Int32) = nI 1 from rfl, nI_addn, Int32.sub_eq_iff_eq_add, nI_addn]; congr 1; omega
  rw [nI_mul, e, nI_ltI (by omega) (by omega), nI_ltI (by omega) (by omega)]
  unfold fitsN at k1 k0
  exact ⟨fun c => k0 (by omega), fun c => ⟨fun c2 => k0 (by omega), fun c2 => k1 (by omega)⟩⟩
/-! counting free degrees -/
def cntI (d : Nat → Nat) (lo hi : Nat) : Nat → Nat
  | 0 => 0
  | k + 1 => cntI d lo hi k + (if lo ≤ d k ∧ d k ≤ hi then 1 else 0)
def inL (d : Nat → Nat) (v : Nat) : Nat → Bool
  | 0 => false
  | k + 1 => inL d v k || decide (d k = v)
theorem inL_iff {d : Nat → Nat} {v : Nat} : ∀ {k}, inL d v k = true ↔ ∃ j, j < k ∧ d j = v
  | 0 => ⟨fun h => Bool.noConfusion h, fun ⟨j, h, _⟩ => absurd h (by omega)⟩
  | k + 1 => by
    show (inL d v k || decide (d k = v)) = true ↔ _
    rw [Bool.or_eq_true, inL_iff, decide_eq_true_iff]
    constructor
    · rintro (⟨j, h, e⟩ | e)
      · exact ⟨j, by omega, e⟩
      · exact ⟨k, by omega, e⟩
    · rintro ⟨j, h, e⟩
      by_cases c : j = k
      · subst c; exact Or.inr e
      · exact Or.inl ⟨j, by omega, e⟩
def cov (d : Nat → Nat) (lo k : Nat) : Nat → Nat
  | 0 => 0
  | w + 1 => cov d lo k w + (if inL d (lo + w) k = true then 1 else 0)
theorem cov_le {d : Nat → Nat} {lo k : Nat} : ∀ w, cov d lo k w ≤ w
  | 0 => Nat.le_refl _
  | w + 1 => by
    have := cov_le (d := d) (lo := lo) (k := k) w
    unfold cov
    split <;> omega
theorem cov_all {d : Nat → Nat} {lo k : Nat} : ∀ w, cov d lo k w = w ↔ ∀ x, x < w → inL d (lo + x) k = true
  | 0 => ⟨fun _ x h => absurd h (by omega), fun _ => rfl⟩
  | w + 1 => by
    have ih := cov_all (d := d) (lo := lo) (k := k) w
    have le := cov_le (d := d) (lo := lo) (k := k) w
    unfold cov
    by_cases c : inL d (lo + w) k = true
    · rw [if_pos c]
      constructor
      · intro h x hx
        by_cases e : x = w
        · subst e; exact c
        · exact ih.mp (by omega) x (by omega)
      · intro h
        have := ih.mpr (fun x hx => h x (by omega))
        omega
    · rw [if_neg c]
      constructor
      · intro h; omega
      · intro h; exact absurd (h w (by omega)) c
theorem cov_step {d : Nat → Nat} {lo k : Nat} (hf : inL d (d k) k = false) : ∀ w, cov d lo (k + 1) w = cov d lo k w + (if lo ≤ d k ∧ d k < lo + w then 1 else 0)
  | 0 => by rw [if_neg (by omega)]; rfl
  | w + 1 => by
    have ih := cov_step (lo := lo) hf w
    unfold cov
    rw [ih]
    have e : inL d (lo + w) (k + 1) = (inL d (lo + w) k || decide (d k = lo + w)) := rfl
    by_cases c : d k = lo + w
    · have a : inL d (lo + w) k = false := by rw [← c]; exact hf
      rw [e, a, if_neg (by omega), if_pos (by rw [decide_eq_true c]; rfl), if_neg (by decide), if_pos (by omega)]
    · have a : decide (d k = lo + w) = false := decide_eq_false c
      rw [e, a, Bool.or_false]
      by_cases c2 : lo ≤ d k ∧ d k < lo + w
      · rw [if_pos c2, if_pos (show lo ≤ d k ∧ d k < lo + (w + 1) by omega)]; omega
      · rw [if_neg c2, if_neg (show ¬ (lo ≤ d k ∧ d k < lo + (w + 1)) by omega)]; omega
theorem cnt_cov {d : Nat → Nat} {lo hi : Nat} (w : Nat) (hw : hi + 1 = lo + w) : ∀ k, (∀ i j, i < k → j < k → d i = d j → i = j) → cntI d lo hi k = cov d lo k w
  | 0, _ => by
    have : ∀ w, cov d lo 0 w = 0 := by
      intro w
      induction w with
      | zero => rfl
      | succ w ih => unfold cov; rw [ih]; rfl
    rw [this]; rfl
  | k + 1, hd => by
    have ih := cnt_cov w hw k (fun i j a b => hd i j (by omega) (by omega))
    have hf : inL d (d k) k = false := by
      apply Bool.eq_false_iff.mpr
      intro h
      obtain ⟨j, hj, e⟩ := inL_iff.mp h
      have := hd j k (by omega) (by omega) e
      omega
    rw [cov_step hf]
    unfold cntI
    rw [ih]
    by_cases c : lo ≤ d k ∧ d k ≤ hi
    · rw [if_pos c, if_pos (by omega)]
    · rw [if_neg c, if_neg (by omega)]
/-- a free one is left, when the taken are fewer -/
theorem free_iff {d : Nat → Nat} {lo hi k : Nat} (hd : ∀ i j, i < k → j < k → d i = d j → i = j) : (∃ u, lo ≤ u ∧ u ≤ hi ∧ ∀ j, j < k → d j ≠ u) ↔ lo ≤ hi ∧ (cntI d lo hi k : Int) < (hi : Int) - lo + 1 := by
  by_cases c : lo ≤ hi
  · have e := cnt_cov (d := d) (lo := lo) (hi := hi) (hi + 1 - lo) (by omega) k hd
    have le := cov_le (d := d) (lo := lo) (k := k) (hi + 1 - lo)
    have al := cov_all (d := d) (lo := lo) (k := k) (hi + 1 - lo)
    constructor
    · rintro ⟨u, h1, h2, h3⟩
      refine ⟨c, ?_⟩
      rw [e]
      by_cases q : cov d lo k (hi + 1 - lo) = hi + 1 - lo
      · obtain ⟨j, hj, ej⟩ := inL_iff.mp (al.mp q (u - lo) (by omega))
        exact absurd (by rw [ej]; omega) (h3 j hj)
      · omega
    · rintro ⟨-, h⟩
      rw [e] at h
      have nq : ¬ ∀ x, x < hi + 1 - lo → inL d (lo + x) k = true := fun z => by
        have := al.mpr z
        omega
      apply Classical.byContradiction
      intro no
      apply nq
      intro x hx
      by_cases q : inL d (lo + x) k = true
      · exact q
      · exfalso
        apply no
        refine ⟨lo + x, by omega, by omega, fun j hj ej => q (inL_iff.mpr ⟨j, hj, ej⟩)⟩
  · constructor
    · rintro ⟨u, h1, h2, -⟩; omega
    · rintro ⟨h, -⟩; omega

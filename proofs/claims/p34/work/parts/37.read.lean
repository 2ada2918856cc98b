theorem i64_of32 (x : Int32) : x.toInt64.toInt = x.toInt := Int32.toInt_toInt64 x
/-! READINGS: move, time, latitudeFrom -/
def isR (g : Page) (x : Int32) : Prop := 0 ≤ x.toInt ∧ x.toInt < rn g
theorem isR_nI {g : Page} {x : Int32} (h : isR g x) : ∃ n, n < rn g ∧ x = nI n := ⟨x.toInt.toNat, by have := h.1; have := h.2; omega, nI_of_toInt h.1⟩
theorem s_pair {x y : Int32} {h g : Page} {M : Mem} {Q : Mem → Prop} {EQ : String → Mem → Prop} (s : St M 0 h) (e : PEq h g) (v : Val g)
    (k : ∀ a b, a < b → b < rn g → x = nI a → y = nI b → Q M) (k1 : ¬ (isR g x ∧ isR g y) → EQ "java/lang/IndexOutOfBoundsException" M) (k2 : isR g x → isR g y → ¬ x < y → EQ "java/lang/IllegalArgumentException" M) : wp_X4_checkReadings x y M Q EQ := by
  obtain ⟨-, -, -, -, -, -, -, -, -, -, v11, -⟩ := id v
  have e11 : M (6 * 0) 11 = g 11 := by rw [s.reads, e.lo (by decide)]
  have en := rn_of v11.1
  simp only [wp_X4_checkReadings, wp_X4_checkReading]
  rw [e11, s_lt0, i32_lt, en, s_lt0, i32_lt (y := g 11), en, i32_lt]
  unfold isR at k1 k2
  refine ⟨fun c => k1 (by omega), fun c => ⟨fun c2 => ⟨fun c3 => k1 (by omega), fun c3 => ⟨fun c4 => ⟨fun c5 => ?_, fun c5 => k2 (by omega) (by omega) (by rw [i32_lt]; omega)⟩, fun c4 => k1 (by omega)⟩⟩, fun c2 => k1 (by omega)⟩⟩
  have a := nI_of_toInt (x := x) (by omega)
  have b := nI_of_toInt (x := y) (by omega)
  exact k _ _ (by omega) (by omega) a b
def mvF (g : Page) (a b : Nat) : Int32 := aroundF (g (153 + 3 * b) - g (153 + 3 * a))
theorem PEq.row {h g : Page} (e : PEq h g) {a y : Nat} (ha : a < rn g) (hy : y < 3) : h (152 + 3 * a + y) = g (152 + 3 * a + y) := by
  have := e.2.2.2 (3 * a + y) (by omega)
  rw [← Nat.add_assoc] at this
  exact this
theorem PEq.way {h g : Page} (e : PEq h g) {a : Nat} (ha : a < rn g) : h (153 + 3 * a) = g (153 + 3 * a) := by
  have := e.row ha (y := 1) (by decide)
  rw [show 152 + 3 * a + 1 = 153 + 3 * a by omega] at this
  exact this
theorem PEq_mv {h g : Page} (e : PEq h g) {a b : Nat} (ha : a < rn g) (hb : b < rn g) : mvF h a b = mvF g a b := by
  unfold mvF; rw [e.way ha, e.way hb]

theorem isR_of {g : Page} {a : Nat} (h : a < rn g) (h2 : rn g ≤ 20) : isR g (nI a) := ⟨by rw [nI_toInt (by omega)]; omega, by rw [nI_toInt (by omega)]; omega⟩
def tmF (m s : Int32) : Int32 := Int32.ofInt (m.toInt * 60000 / (900 * s.toInt))
theorem tm_rng {m s : Int} (hm : 0 ≤ m ∧ m ≤ 10800) (hs : 0 < s ∧ s ≤ 1000) : 0 ≤ m * 60000 / (900 * s) ∧ m * 60000 / (900 * s) ≤ 648000000 := by
  refine ⟨Int.ediv_nonneg (by omega) (by omega), ?_⟩
  have := Int.ediv_le_self (a := m * 60000) (900 * s) (by omega)
  omega
theorem tm32 {m s : Int32} (hm : 0 ≤ m.toInt ∧ m.toInt ≤ 10800) (hs : 0 < s.toInt ∧ s.toInt ≤ 1000) : m * 60000 / (900 * s) = tmF m s ∧ ¬ 900 * s = 0 := by
  have e6 : (60000 : Int32).toInt = 60000 := rfl
  have e9 : (900 : Int32).toInt = 900 := rfl
  have a : (m * 60000).toInt = m.toInt * 60000 := by rw [i32_mul (by rw [e6]; omega) (by rw [e6]; omega), e6]
  have b : (900 * s).toInt = 900 * s.toInt := by rw [i32_mul (by rw [e9]; omega) (by rw [e9]; omega), e9]
  have r := tm_rng hm hs
  refine ⟨?_, fun z => ?_⟩
  · unfold tmF
    rw [i32_eq, i32_div (fun z => ?_), a, b, Int.tdiv_eq_ediv_of_nonneg (by omega), i32_ofInt (by omega) (by omega)]
    have := congrArg Int32.toInt z
    rw [b] at this
    have : (-1 : Int32).toInt = -1 := rfl
    omega
  · have := congrArg Int32.toInt z
    rw [b, i0] at this
    omega
theorem i64_mul {x y : Int64} (h1 : -9223372036854775808 ≤ x.toInt * y.toInt) (h2 : x.toInt * y.toInt < 9223372036854775808) : (x * y).toInt = x.toInt * y.toInt := by
  rw [Int64.toInt_mul]; exact Int.bmod_eq_of_le (by omega) (by omega)
theorem i64_add {x y : Int64} (h1 : -9223372036854775808 ≤ x.toInt + y.toInt) (h2 : x.toInt + y.toInt < 9223372036854775808) : (x + y).toInt = x.toInt + y.toInt := by
  rw [Int64.toInt_add]; exact Int.bmod_eq_of_le (by omega) (by omega)
theorem i64_sub {x y : Int64} (h1 : -9223372036854775808 ≤ x.toInt - y.toInt) (h2 : x.toInt - y.toInt < 9223372036854775808) : (x - y).toInt = x.toInt - y.toInt := by
  rw [Int64.toInt_sub]; exact Int.bmod_eq_of_le (by omega) (by omega)
theorem i64_to32 {x : Int64} (h1 : -2147483648 ≤ x.toInt) (h2 : x.toInt < 2147483648) : x.toInt32.toInt = x.toInt := by
  rw [Int64.toInt_toInt32]; exact Int.bmod_eq_of_le (by omega) (by omega)

def onI (g : Page) (a b : Nat) (l : Int32) : Int := (900 * (sinF l).toInt * (g (152 + 3 * b) - g (152 + 3 * a)).toInt) / (1000 * (g 1).toInt)
def farI (g : Page) (a b : Nat) (l : Int32) : Int := ((g (153 + 3 * a)).toInt + onI g a b l - (g (153 + 3 * b)).toInt) % 10800
def missF (g : Page) (a b : Nat) (l : Int32) : Int32 := Int32.ofInt (if farI g a b l ≤ 5400 then farI g a b l else 10800 - farI g a b l)
theorem missF_toInt (g : Page) (a b : Nat) (l : Int32) : (missF g a b l).toInt = (if farI g a b l ≤ 5400 then farI g a b l else 10800 - farI g a b l) := by
  unfold missF
  have : 0 ≤ farI g a b l ∧ farI g a b l < 10800 := by unfold farI; omega
  rw [i32_ofInt] <;> split <;> omega
theorem onI_rng {g : Page} {a b : Nat} {l : Int32} (v1 : 60 ≤ (g 1).toInt ∧ (g 1).toInt ≤ 900) (hl : -90 ≤ l.toInt ∧ l.toInt ≤ 90) :
    -3000000000000000 ≤ 900 * (sinF l).toInt * (g (152 + 3 * b) - g (152 + 3 * a)).toInt ∧ 900 * (sinF l).toInt * (g (152 + 3 * b) - g (152 + 3 * a)).toInt ≤ 3000000000000000 ∧ -3000000000000000 ≤ onI g a b l ∧ onI g a b l ≤ 3000000000000000 := by
  unfold onI
  have hs := sinF_bound hl.1 hl.2
  generalize (g (152 + 3 * b) - g (152 + 3 * a)) = t
  have t1 := i32_lo t
  have t2 := i32_hi t
  generalize (sinF l).toInt = s at hs
  generalize t.toInt = t at t1 t2
  have p : ∀ x y : Int, -900000 ≤ x → x ≤ 900000 → -2147483648 ≤ y → y ≤ 2147483648 → -3000000000000000 ≤ x * y ∧ x * y ≤ 3000000000000000 := by
    intro x y h1 h2 h3 h4
    have hx : x.natAbs ≤ 900000 := by omega
    have hy : y.natAbs ≤ 2147483648 := by omega
    have := Nat.mul_le_mul hx hy
    rw [← Int.natAbs_mul] at this
    omega
  obtain ⟨a1, a2⟩ := p (900 * s) t (by omega) (by omega) (by omega) (by omega)
  generalize 900 * s * t = z at a1 a2
  have hu : 0 < 1000 * (g 1).toInt := by omega
  generalize 1000 * (g 1).toInt = u at hu
  refine ⟨a1, a2, ?_, ?_⟩
  · have h1 : -3000000000000000 ≤ z / u := by
      rw [Int.le_ediv_iff_mul_le hu]
      omega
    exact h1
  · by_cases c : 0 ≤ z
    · have := Int.ediv_le_self u c; omega
    · have := Int.ediv_lt_of_lt_mul hu (show z < 1 * u by omega)
      omega
theorem s_dist {h : Page} {a b : Nat} {l : Int32} {M : Mem} {Q : Int32 → Mem → Prop} (s : St M 0 h) (v : Val h) (ha : a < rn h) (hb : b < rn h) (hl : -90 ≤ l.toInt ∧ l.toInt ≤ 90) (k : Q (missF h a b l) M) : wp_X2_distanceFromExpected 0 (nI a) (nI b) l M Q := by
  obtain ⟨-, v1, -, -, -, -, -, -, -, -, v11, -, -, vr⟩ := id v
  have hr : rn h ≤ 20 := by unfold rn; omega
  obtain ⟨r1, r2, r3, r4⟩ := onI_rng (g := h) (a := a) (b := b) v1 hl
  have hs := sinF_bound hl.1 hl.2
  obtain ⟨wa1, wa2⟩ := vr a ha
  obtain ⟨wb1, wb2⟩ := vr b hb
  have e9 : (900 : Int64).toInt = 900 := rfl
  have e108 : (10800 : Int64).toInt = 10800 := rfl
  have f108 : (10800 : Int32).toInt = 10800 := rfl
  have e1000 : (1000 : Int32).toInt = 1000 := rfl
  simp only [wp_X2_distanceFromExpected, forall_eq]
  refine s_clockOf s (by omega) (s_clockOf s (by omega) (s_sineOf hl.1 hl.2 (s_unit s ?_)))
  have eu : (1000 * h 1).toInt = 1000 * (h 1).toInt := by rw [i32_mul (by rw [e1000]; omega) (by rw [e1000]; omega), e1000]
  have p1 : (900 * (sinF l).toInt64).toInt = 900 * (sinF l).toInt := by rw [i64_mul (by rw [e9, i64_of32]; omega) (by rw [e9, i64_of32]; omega), e9, i64_of32]
  have p2 : (900 * (sinF l).toInt64 * (h (152 + 3 * b) - h (152 + 3 * a)).toInt64).toInt = 900 * (sinF l).toInt * (h (152 + 3 * b) - h (152 + 3 * a)).toInt := by
    rw [i64_mul (by rw [p1, i64_of32]; omega) (by rw [p1, i64_of32]; omega), p1, i64_of32]
  refine s_divideDown (by rw [i64_of32, eu]; omega) (s_directionOf s (by omega) ?_)
  rw [p2, i64_of32, eu]
  have eo : (900 * (sinF l).toInt * (h (152 + 3 * b) - h (152 + 3 * a)).toInt) / (1000 * (h 1).toInt) = onI h a b l := rfl
  rw [eo]
  have p3 : ((h (153 + 3 * a)).toInt64 + Int64.ofInt (onI h a b l)).toInt = (h (153 + 3 * a)).toInt + onI h a b l := by
    rw [i64_add (by rw [i64_of32, i64_ofInt (by omega) (by omega)]; omega) (by rw [i64_of32, i64_ofInt (by omega) (by omega)]; omega), i64_of32, i64_ofInt (by omega) (by omega)]
  refine s_floorMod (by rw [e108]; omega) (s_directionOf s (by omega) ?_)
  rw [p3, e108]
  have p4 : (Int64.ofInt (((h (153 + 3 * a)).toInt + onI h a b l) % 10800)).toInt32.toInt = ((h (153 + 3 * a)).toInt + onI h a b l) % 10800 := by
    rw [i64_to32 (by rw [i64_ofInt (by omega) (by omega)]; omega) (by rw [i64_ofInt (by omega) (by omega)]; omega), i64_ofInt (by omega) (by omega)]
  refine s_around ?_
  generalize hw : (Int64.ofInt (((h (153 + 3 * a)).toInt + onI h a b l) % 10800)).toInt32 = w at p4
  have p5 : (aroundF (h (153 + 3 * b) - w)).toInt = ((h (153 + 3 * b)).toInt - w.toInt) % 10800 := by
    rw [aroundF_toInt, i32_sub (by omega) (by omega)]
  have p6 : (10800 - aroundF (h (153 + 3 * b) - w)).toInt = 10800 - ((h (153 + 3 * b)).toInt - w.toInt) % 10800 := by
    rw [i32_sub (by rw [f108, p5]; omega) (by rw [f108, p5]; omega), f108, p5]
  have fin : (if 10800 - aroundF (h (153 + 3 * b) - w) < aroundF (h (153 + 3 * b) - w) then 10800 - aroundF (h (153 + 3 * b) - w) else aroundF (h (153 + 3 * b) - w)) = missF h a b l := by
    rw [i32_eq, missF_toInt]
    have ef : farI h a b l = ((h (153 + 3 * a)).toInt + onI h a b l - (h (153 + 3 * b)).toInt) % 10800 := rfl
    by_cases c : 10800 - aroundF (h (153 + 3 * b) - w) < aroundF (h (153 + 3 * b) - w)
    · rw [if_pos c]
      rw [i32_lt, p5, p6] at c
      rw [p6]
      split <;> omega
    · rw [if_neg c]
      rw [i32_lt, p5, p6] at c
      rw [p5]
      split <;> omega
  rw [fin]
  exact k
theorem neg_nI {n : Nat} (h : n ≤ 1000) : (-(nI n)).toInt = -(n : Int) := by rw [i32_neg (by rw [nI_toInt (by omega)]; omega), nI_toInt (by omega)]

theorem t_move {K : KS} {x y : Int32} (a b : Nat) (v : Val K.1) (hx : x = nI a) (hy : y = nI b) (hab : a < b) (hb : b < rn K.1) : Does (wp_L_tryMove x y) K (mvF K.1 a b) K := by
  intro M Q R k
  obtain ⟨⟨⟨h, s, e⟩, -⟩, -⟩ := id R
  have hr : rn K.1 ≤ 20 := by obtain ⟨-, -, -, -, -, -, -, -, -, -, v11, -⟩ := id v; unfold rn; omega
  subst hx hy
  simp only [wp_L_tryMove, wp_X4_move, forall_eq]
  refine s_pair s e v (fun a' b' hab' hb' hx hy => ?_) (fun c => absurd ⟨isR_of (by omega) hr, isR_of hb hr⟩ c) (fun _ _ c => absurd ((nI_ltI (by omega) (by omega)).mpr hab) c)
  refine s_moveBetween s (by omega) (by omega) ?_
  have em : aroundF (h (153 + 3 * b) - h (153 + 3 * a)) = mvF K.1 a b := PEq_mv e (by omega) hb
  rw [em]
  exact k _ R
/-- two readings of which one is missing, or in the wrong order -/
theorem t_moveI {K : KS} {x y : Int32} (v : Val K.1) (c : ¬ (isR K.1 x ∧ isR K.1 y)) : Does (wp_L_tryMove x y) K (-1001) K := by
  intro M Q R k
  obtain ⟨⟨⟨h, s, e⟩, -⟩, -⟩ := id R
  simp only [wp_L_tryMove, wp_X4_move, forall_eq]
  refine s_pair s e v (fun a' b' hab' hb' hx hy => absurd ⟨?_, ?_⟩ c) (fun c => ⟨fun _ => k _ R, fun z => absurd z (by decide), Or.inl rfl⟩) (fun c1 c2 _ => absurd ⟨c1, c2⟩ c)
  all_goals
    have hr : rn K.1 ≤ 20 := by obtain ⟨-, -, -, -, -, -, -, -, -, -, v11, -⟩ := id v; unfold rn; omega
    first
      | (rw [hx]; exact isR_of (by omega) hr)
      | (rw [hy]; exact isR_of (by omega) hr)
theorem t_moveA {K : KS} {x y : Int32} (v : Val K.1) (c1 : isR K.1 x) (c2 : isR K.1 y) (c3 : ¬ x < y) : Does (wp_L_tryMove x y) K (-1002) K := by
  intro M Q R k
  obtain ⟨⟨⟨h, s, e⟩, -⟩, -⟩ := id R
  have hr : rn K.1 ≤ 20 := by obtain ⟨-, -, -, -, -, -, -, -, -, -, v11, -⟩ := id v; unfold rn; omega
  simp only [wp_L_tryMove, wp_X4_move, forall_eq]
  exact s_pair s e v (fun a' b' hab' hb' hx hy => absurd (by rw [hx, hy, nI_ltI (by omega) (by omega)]; exact hab') c3) (fun c => absurd ⟨c1, c2⟩ c) (fun _ _ _ => ⟨fun z => absurd z (by decide), fun _ => k _ R, Or.inr rfl⟩)
theorem t_timeI {K : KS} {x y : Int32} (v : Val K.1) (c : ¬ (isR K.1 x ∧ isR K.1 y)) : Does (wp_L_tryTime x y) K (-1001) K := by
  intro M Q R k
  obtain ⟨⟨⟨h, s, e⟩, -⟩, -⟩ := id R
  simp only [wp_L_tryTime, wp_X4_time, forall_eq]
  refine s_pair s e v (fun a' b' hab' hb' hx hy => absurd ⟨?_, ?_⟩ c) (fun c => ⟨fun _ => k _ R, fun z => absurd z (by decide), Or.inl rfl⟩) (fun c1 c2 _ => absurd ⟨c1, c2⟩ c)
  all_goals
    have hr : rn K.1 ≤ 20 := by obtain ⟨-, -, -, -, -, -, -, -, -, -, v11, -⟩ := id v; unfold rn; omega
    first
      | (rw [hx]; exact isR_of (by omega) hr)
      | (rw [hy]; exact isR_of (by omega) hr)
theorem t_timeA {K : KS} {x y : Int32} (v : Val K.1) (c1 : isR K.1 x) (c2 : isR K.1 y) (c3 : ¬ x < y) : Does (wp_L_tryTime x y) K (-1002) K := by
  intro M Q R k
  obtain ⟨⟨⟨h, s, e⟩, -⟩, -⟩ := id R
  have hr : rn K.1 ≤ 20 := by obtain ⟨-, -, -, -, -, -, -, -, -, -, v11, -⟩ := id v; unfold rn; omega
  simp only [wp_L_tryTime, wp_X4_time, forall_eq]
  exact s_pair s e v (fun a' b' hab' hb' hx hy => absurd (by rw [hx, hy, nI_ltI (by omega) (by omega)]; exact hab') c3) (fun c => absurd ⟨c1, c2⟩ c) (fun _ _ _ => ⟨fun z => absurd z (by decide), fun _ => k _ R, Or.inr rfl⟩)
theorem t_latA {K : KS} {x y : Int32} (v : Val K.1) (c1 : isR K.1 x) (c2 : isR K.1 y) (c3 : ¬ x < y) : Does (wp_L_tryLatitudeFrom x y) K (-1002) K := by
  intro M Q R k
  obtain ⟨⟨⟨h, s, e⟩, -⟩, -⟩ := id R
  have hr : rn K.1 ≤ 20 := by obtain ⟨-, -, -, -, -, -, -, -, -, -, v11, -⟩ := id v; unfold rn; omega
  simp only [wp_L_tryLatitudeFrom, wp_X4_latitudeFrom, forall_eq]
  exact s_pair s e v (fun a' b' hab' hb' hx hy => absurd (by rw [hx, hy, nI_ltI (by omega) (by omega)]; exact hab') c3) (fun c => absurd ⟨c1, c2⟩ c) (fun _ _ _ => ⟨fun z => absurd z (by decide), fun _ => k _ R, Or.inr rfl⟩)
theorem sin_pos : ∀ n, n < 91 → (sinA (nI n) = 0 ↔ n = 0) := by decide +kernel
/-- a time: NONE at the latitude 0 alone -/
theorem t_time {K : KS} {x y : Int32} (a b : Nat) (v : Val K.1) (hx : x = nI a) (hy : y = nI b) (hab : a < b) (hb : b < rn K.1) (M : Mem) (Q : Int32 → Mem → Prop) (R : Rep M K) (k : ∀ r M', (r = -9 ↔ K.1 0 = 0) → Rep M' K → Q r M') : wp_L_tryTime x y M Q := by
  obtain ⟨⟨⟨h, s, e⟩, -⟩, -⟩ := id R
  obtain ⟨v0, -⟩ := id v
  have hr : rn K.1 ≤ 20 := by obtain ⟨-, -, -, -, -, -, -, -, -, -, v11, -⟩ := id v; unfold rn; omega
  subst hx hy
  simp only [wp_L_tryTime, wp_X4_time, forall_eq]
  refine s_pair s e v (fun a' b' hab' hb' hx hy => ?_) (fun c => absurd ⟨isR_of (by omega) hr, isR_of hb hr⟩ c) (fun _ _ c => absurd ((nI_ltI (by omega) (by omega)).mpr hab) c)
  rw [s.set (by decide), e.lo (by decide)]
  have ea : (if 0 ≤ K.1 0 then K.1 0 else 0 - K.1 0) = nI (K.1 0).toInt.natAbs := abs_nI v0.1 v0.2
  rw [ea]
  obtain ⟨-, t2, t3, -⟩ := sin_tab (K.1 0).toInt.natAbs (by omega)
  have sp := sin_pos (K.1 0).toInt.natAbs (by omega)
  have z0 : K.1 0 = 0 ↔ (K.1 0).toInt.natAbs = 0 := by rw [i32_eq, i0]; omega
  have eS : sinF (nI (K.1 0).toInt.natAbs) = sinA (nI (K.1 0).toInt.natAbs) := by
    unfold sinF
    rw [if_pos]
    rw [i32_le, i0, nI_toInt (by omega)]; omega
  refine s_sineOf (by rw [nI_toInt (by omega)]; omega) (by rw [nI_toInt (by omega)]; omega) ?_
  rw [eS]
  rw [z0] at k
  generalize (K.1 0).toInt.natAbs = L at t2 t3 sp k
  generalize sinA (nI L) = S at t2 t3 sp
  refine ⟨fun cS => ?_, fun cS => k _ _ ⟨fun _ => sp.mp cS, fun _ => rfl⟩ R⟩
  have S0 : 0 < S.toInt := by
    have : S.toInt ≠ 0 := fun z => cS (by rw [i32_eq, z]; rfl)
    omega
  have nL : ¬ L = 0 := fun z => cS (sp.mpr z)
  have fin : ∀ m : Int32, 0 ≤ m.toInt ∧ m.toInt < 10800 → (tmF m S = -9 ↔ L = 0) := fun m hm => by
    refine ⟨fun z => ?_, fun z => absurd z nL⟩
    have r := tm_rng (m := m.toInt) (s := S.toInt) (by omega) (by omega)
    have := congrArg Int32.toInt z
    unfold tmF at this
    rw [i32_ofInt (by omega) (by omega)] at this
    have : (-9 : Int32).toInt = -9 := rfl
    omega
  refine s_moveBetween s (by omega) (by omega) ?_
  have mr := aroundF_rng (h (153 + 3 * b) - h (153 + 3 * a))
  generalize aroundF (h (153 + 3 * b) - h (153 + 3 * a)) = mv at mr
  refine ⟨fun cl => ?_, fun cl => s_around ?_⟩
  · obtain ⟨q1, q2⟩ := tm32 (m := mv) (s := S) (by omega) (by omega)
    rw [q1]
    exact ⟨q2, k _ _ (fin _ mr) R⟩
  · have ar := aroundF_rng (-mv)
    obtain ⟨q1, q2⟩ := tm32 (m := aroundF (-mv)) (s := S) (by omega) (by omega)
    rw [q1]
    exact ⟨q2, k _ _ (fin _ ar) R⟩
/-- a latitude: from -90 to 90 -/
theorem t_lat {K : KS} {x y : Int32} (a b : Nat) (v : Val K.1) (hx : x = nI a) (hy : y = nI b) (hab : a < b) (hb : b < rn K.1) (M : Mem) (Q : Int32 → Mem → Prop) (R : Rep M K) (k : ∀ r M', -90 ≤ r.toInt ∧ r.toInt ≤ 90 → Rep M' K → Q r M') : wp_L_tryLatitudeFrom x y M Q := by
  obtain ⟨⟨⟨h, s, e⟩, -⟩, -⟩ := id R
  have vh := Val_PEq v e
  have hr : rn K.1 ≤ 20 := by obtain ⟨-, -, -, -, -, -, -, -, -, -, v11, -⟩ := id v; unfold rn; omega
  subst hx hy
  simp only [wp_L_tryLatitudeFrom, wp_X4_latitudeFrom, forall_eq]
  refine s_pair s e v (fun a' b' hab' hb' hx hy => ?_) (fun c => absurd ⟨isR_of (by omega) hr, isR_of hb hr⟩ c) (fun _ _ c => absurd ((nI_ltI (by omega) (by omega)).mpr hab) c)
  have hab'' : a < rn h ∧ b < rn h := by rw [e.ern]; omega
  refine ⟨fun w4 w5 w6 M' => M' = M ∧ ∃ n, n ≤ 91 ∧ w4 = nI n ∧ (-90 ≤ w6.toInt ∧ w6.toInt ≤ 90), fun w4 _ _ _ => 300 - w4.toNatClampNeg, ⟨rfl, 0, by decide, rfl, by decide⟩, ?_⟩
  rintro w4 w5 w6 M' ⟨rfl, n, n91, rfl, hs⟩
  have i90 : fMOST 0 < nI n ↔ 90 < n := nI_ltI (a := 90) (by omega) (by omega)
  rw [i90]
  refine ⟨fun c => k _ _ hs R, fun c => ?_⟩
  have l1 : (nI n).toInt = (n : Int) := nI_toInt (by omega)
  have ln := neg_nI (n := n) (by omega)
  have step : ∀ w : Int32, (-90 ≤ w.toInt ∧ w.toInt ≤ 90) → (M' = M' ∧ ∃ n', n' ≤ 91 ∧ nI n + 1 = nI n' ∧ (-90 ≤ w.toInt ∧ w.toInt ≤ 90)) ∧ 300 - (nI n + 1).toNatClampNeg < 300 - (nI n).toNatClampNeg := fun w hw => by
    refine ⟨⟨rfl, n + 1, by omega, nI_1 n, hw⟩, ?_⟩
    rw [nI_1, nI_clamp (by omega), nI_clamp (by omega)]; omega
  refine s_dist s vh hab''.1 hab''.2 (by omega) ?_
  refine ⟨fun c3 => s_dist s vh hab''.1 hab''.2 (by omega) ?_, fun c3 => s_dist s vh hab''.1 hab''.2 (by omega) ?_⟩
  · exact ⟨fun c4 => step _ (by omega), fun c4 => step _ (by omega)⟩
  · exact ⟨fun c4 => step _ (by omega), fun c4 => step _ (by omega)⟩

theorem nI_addn (a b : Nat) : nI a + nI b = nI (a + b) := nI_add a b
/-! WHAT THERE IS: about, pin, hit, reading, sine -/
theorem s_lt0 {x : Int32} : x < 0 ↔ x.toInt < 0 := by rw [i32_lt, i0]

theorem pn_of {g : Page} (h : 0 ≤ (g 9).toInt) : (g 9).toInt = pn g := by unfold pn; omega
theorem rn_of {g : Page} (h : 0 ≤ (g 11).toInt) : (g 11).toInt = rn g := by unfold rn; omega
theorem d2' : (2 : Int32).toInt = 2 := rfl
theorem eq3 {x : Int32} (h : 0 ≤ x.toInt ∧ x.toInt ≤ 2) : x = 0 ∨ x = 1 ∨ x = 2 := by
  rw [i32_eq, i32_eq, i32_eq, i0, i1, d2']; omega

theorem St.hit {M : Mem} {i : Nat} {h : Page} (s : St M i h) {t n y : Nat} (ht : M (6 * i) 9 = nI t) (ht2 : t < 20) (hn : n < 20) (hy : y < 3) : M (6 * i + 4) (3 * ((t + 20 - n) % 20) + y) = h (92 + 3 * n + y) := by
  rw [s.at, pv, if_neg (by omega), if_neg (by omega), if_neg (by omega), if_neg (by omega), if_neg (by omega), if_pos (by omega), ht, nI_clamp (by omega)]
  congr 1
  rw [show (92 + 3 * n + y - 92) / 3 = n by omega, show (92 + 3 * n + y - 92) % 3 = y by omega]
theorem St.top {M : Mem} {i : Nat} {h : Page} (s : St M i h) : ∃ t, t < 20 ∧ M (6 * i) 9 = nI t :=
  ⟨_, by have := s.2; omega, nI_of_toInt s.2.1⟩
theorem s_fits {x0 x1 : Int32} {M : Mem} {Q : Int32 → Mem → Prop} (k1 : ∀ w, x0 = nI w → SetOK w x1 → Q 1 M) (k0 : (∀ w, w < 5 → x0 = nI w → ¬ SetOK w x1) → Q 0 M) : wp_X4_settingFits x0 x1 M Q := by
  simp only [wp_X4_settingFits, forall_eq]
  have d5 : (5 : Int32).toInt = 5 := rfl
  rw [s_lt0, i32_lt, d5]
  refine ⟨fun c => k0 (fun w hw hx => ?_), fun c => ⟨fun c2 => ?_, fun c2 => k0 (fun w hw hx => ?_)⟩⟩
  · rw [hx, nI_toInt (by omega)] at c; omega
  · have hx : x0 = nI x0.toInt.toNat := nI_of_toInt (by omega)
    have hw : x0.toInt.toNat < 5 := by omega
    generalize x0.toInt.toNat = w at hx hw
    subst hx
    rw [nI_clamp (by omega), i32_lt, i32_lt]
    have key : ((fLEAST w).toInt ≤ x1.toInt ∧ x1.toInt ≤ (fMOST w).toInt) ↔ SetOK w x1 := by
      unfold SetOK
      rcases (show w = 0 ∨ w = 1 ∨ w = 2 ∨ w = 3 ∨ w = 4 by omega) with z | z | z | z | z <;> subst z
      · rw [show (fLEAST 0).toInt = -90 from rfl, show (fMOST 0).toInt = 90 from rfl]; omega
      · rw [show (fLEAST 1).toInt = 60 from rfl, show (fMOST 1).toInt = 900 from rfl]; omega
      · rw [show (fLEAST 2).toInt = 0 from rfl, show (fMOST 2).toInt = 99 from rfl]; omega
      · rw [show (fLEAST 3).toInt = 1 from rfl, show (fMOST 3).toInt = 9999 from rfl]; omega
      · rw [show (fLEAST 4).toInt = 0 from rfl, show (fMOST 4).toInt = 99 from rfl]; omega
    have no : ¬ SetOK w x1 → Q 0 M := fun c => k0 (fun w' hw' e => by
      have : w = w' := by
        have := congrArg Int32.toInt e
        rw [nI_toInt (by omega), nI_toInt (by omega)] at this
        omega
      subst this; exact c)
    refine ⟨vp_in_nI hw (by decide), fun c3 => no (fun z => ?_), fun c3 => ⟨vp_in_nI hw (by decide), fun c4 => no (fun z => ?_), fun c4 => k1 w rfl (key.mp (by omega))⟩⟩
    · have := key.mpr z; omega
    · have := key.mpr z; omega
  · rw [hx, nI_toInt (by omega)] at c2; omega

def aboutF (g : Page) (n : Nat) : Int32 := if n = 10 then standF g else if n = 11 then g 10 else if n = 12 then g 11 else g n
theorem t_about {K : KS} {x : Int32} (n : Nat) (hx : x = nI n) (hn : n ≤ 12) : Does (wp_L_tryAbout x) K (aboutF K.1 n) K := by
  intro M Q R k
  obtain ⟨⟨⟨h, s, e⟩, v⟩, -⟩ := id R
  obtain ⟨-, -, -, -, -, -, -, -, v9, -⟩ := id v
  have d12 : (12 : Int32).toInt = 12 := rfl
  simp only [wp_L_tryAbout, wp_X4_about, forall_eq]
  have xi : x.toInt = n := by rw [hx, nI_toInt (by omega)]
  rw [s_lt0, i32_le, d12]
  refine ⟨fun c => absurd c (by omega), fun c => ⟨fun c2 => ?_, fun c2 => absurd c2 (by omega)⟩⟩
  subst hx
  have eq : ∀ a, a < 100 → (nI n = nI a ↔ n = a) := fun a ha => by rw [i32_eq, nI_toInt (by omega), nI_toInt (by omega)]; omega
  have G : ∀ r, r = aboutF K.1 n → Q r M := fun r hr => by rw [hr]; exact k _ R
  unfold aboutF at G
  rw [show (5 : Int32) = nI 5 from rfl, show (6 : Int32) = nI 6 from rfl, show (7 : Int32) = nI 7 from rfl, show (8 : Int32) = nI 8 from rfl, show (9 : Int32) = nI 9 from rfl, show (10 : Int32) = nI 10 from rfl, show (11 : Int32) = nI 11 from rfl]
  rw [eq 5 (by decide), eq 6 (by decide), eq 7 (by decide), eq 8 (by decide), eq 9 (by decide), eq 10 (by decide), eq 11 (by decide), nI_leI (by decide) (by omega), nI_clamp (by omega)]
  refine ⟨fun c3 => ⟨fun z => ?_, fun z => ⟨fun z => ?_, fun z => ⟨fun z => ?_, fun z => ⟨fun z => ?_, fun z => ⟨fun z => ?_, fun z => ⟨fun z => ?_, fun z => ⟨fun z => ?_, fun z => ?_⟩⟩⟩⟩⟩⟩⟩, fun c3 => ⟨vp_in_nI (by omega) (by decide), ?_⟩⟩
  · subst z; rw [s.dir, e.lo (by decide)]; exact G _ rfl
  · subst z; rw [s.rest, e.lo (by decide)]; exact G _ rfl
  · subst z; rw [s.height, e.lo (by decide)]; exact G _ rfl
  · subst z; rw [s.clock, e.lo (by decide)]; exact G _ rfl
  · subst z; rw [s.pins, e.lo (by decide)]; exact G _ rfl
  · subst z
    refine s_standing s (by rw [e.lo (by decide)]; exact v9) ?_
    rw [PEq_stand e]; exact G _ rfl
  · subst z; rw [s.hits, e.lo (by decide)]; exact G _ rfl
  · have : n = 12 := by omega
    subst this; rw [s.reads, e.lo (by decide)]; exact G _ rfl
  · rw [s.set (by omega), e.lo (by omega)]
    rw [if_neg (by omega), if_neg (by omega), if_neg (by omega)] at G
    exact G _ rfl
theorem t_aboutX {K : KS} {x : Int32} (hx : ¬ (0 ≤ x.toInt ∧ x.toInt ≤ 12)) : Does (wp_L_tryAbout x) K (-1002) K := by
  intro M Q R k
  have d12 : (12 : Int32).toInt = 12 := rfl
  simp only [wp_L_tryAbout, wp_X4_about, forall_eq]
  rw [s_lt0, i32_le, d12]
  exact ⟨fun c => ⟨fun _ => k _ R, trivial⟩, fun c => ⟨fun c2 => absurd ⟨by omega, c2⟩ hx, fun c2 => ⟨fun _ => k _ R, trivial⟩⟩⟩
def pinR (g : Page) (n : Nat) (y : Nat) : Int32 := if y = 0 then g (12 + 2 * n) else if y = 1 then g (13 + 2 * n) else aroundF (g (12 + 2 * n) - g 5)
theorem t_pin {K : KS} {x y : Int32} (n w : Nat) (hx : x = nI n) (hn : n < pn K.1) (hy : y = nI w) (hw : w ≤ 2) : Does (wp_L_tryPin x y) K (pinR K.1 n w) K := by
  intro M Q R k
  obtain ⟨⟨⟨h, s, e⟩, v⟩, -⟩ := id R
  obtain ⟨-, -, -, -, -, -, -, -, v9, -⟩ := id v
  have hp : pn K.1 ≤ 40 := by unfold pn; omega
  have e9 : h 9 = K.1 9 := e.lo (by decide)
  have en := pn_of v9.1
  simp only [wp_L_tryPin, wp_X4_pin, wp_X4_checkPin, forall_eq]
  have xi : x.toInt = n := by rw [hx, nI_toInt (by omega)]
  have yi : y.toInt = w := by rw [hy, nI_toInt (by omega)]
  rw [s_lt0, s_lt0, i32_le, d2', i32_lt, s.pins, e9, en]
  refine ⟨fun c => absurd c (by omega), fun c => ⟨fun c2 => ⟨fun c3 => absurd c3 (by omega), fun c3 => ⟨fun c4 => ?_, fun c4 => absurd c4 (by omega)⟩⟩, fun c2 => absurd c2 (by omega)⟩⟩
  have G : ∀ r, r = pinR K.1 n w → Q r M := fun r hr => by rw [hr]; exact k _ R
  unfold pinR at G
  have g2 := e.2.1 n hn
  have eq : ∀ a, a < 100 → (y = nI a ↔ w = a) := fun a ha => by rw [hy, i32_eq, nI_toInt (by omega), nI_toInt (by omega)]; omega
  rw [hx, nI_clamp (by omega), s.dir, s.place (by omega), s.stand (by omega), g2.1, g2.2, e.lo (by decide), show (0 : Int32) = nI 0 from rfl, show (1 : Int32) = nI 1 from rfl, eq 0 (by decide), eq 1 (by decide)]
  refine ⟨fun z => ⟨vp_in_nI (by omega) (by decide), ?_⟩, fun z => ⟨fun z2 => ⟨vp_in_nI (by omega) (by decide), ?_⟩, fun z2 => ⟨vp_in_nI (by omega) (by decide), s_around ?_⟩⟩⟩
  · rw [if_pos z] at G; exact G _ rfl
  · rw [if_neg z, if_pos z2] at G; exact G _ rfl
  · rw [if_neg z, if_neg z2] at G; exact G _ rfl
theorem t_pinI {K : KS} {x y : Int32} (v : Val K.1) (hx : ¬ (0 ≤ x.toInt ∧ x.toInt < pn K.1)) : Does (wp_L_tryPin x y) K (-1001) K := by
  intro M Q R k
  obtain ⟨⟨⟨h, s, e⟩, -⟩, -⟩ := id R
  obtain ⟨-, -, -, -, -, -, -, -, v9, -⟩ := id v
  have e9 : h 9 = K.1 9 := e.lo (by decide)
  have en := pn_of v9.1
  simp only [wp_L_tryPin, wp_X4_pin, wp_X4_checkPin, forall_eq]
  rw [s_lt0, s_lt0, i32_le, d2', i32_lt, s.pins, e9, en]
  exact ⟨fun c => ⟨fun _ => k _ R, fun z => absurd z (by decide), Or.inl trivial⟩, fun c => ⟨fun c2 => absurd ⟨by omega, c2⟩ hx, fun c2 => ⟨fun _ => k _ R, fun z => absurd z (by decide), Or.inl trivial⟩⟩⟩
theorem t_pinA {K : KS} {x y : Int32} (n : Nat) (v : Val K.1) (hx : x = nI n) (hn : n < pn K.1) (hy : ¬ (0 ≤ y.toInt ∧ y.toInt ≤ 2)) : Does (wp_L_tryPin x y) K (-1002) K := by
  intro M Q R k
  obtain ⟨⟨⟨h, s, e⟩, -⟩, -⟩ := id R
  obtain ⟨-, -, -, -, -, -, -, -, v9, -⟩ := id v
  have hp : pn K.1 ≤ 40 := by unfold pn; omega
  have e9 : h 9 = K.1 9 := e.lo (by decide)
  have en := pn_of v9.1
  have xi : x.toInt = n := by rw [hx, nI_toInt (by omega)]
  simp only [wp_L_tryPin, wp_X4_pin, wp_X4_checkPin, forall_eq]
  rw [s_lt0, s_lt0, i32_le, d2', i32_lt, s.pins, e9, en]
  exact ⟨fun c => absurd c (by omega), fun c => ⟨fun c2 => ⟨fun c3 => ⟨fun z => absurd z (by decide), fun _ => k _ R, Or.inr trivial⟩, fun c3 => ⟨fun c4 => absurd ⟨by omega, c4⟩ hy, fun c4 => ⟨fun z => absurd z (by decide), fun _ => k _ R, Or.inr trivial⟩⟩⟩, fun c2 => absurd c2 (by omega)⟩⟩
def hitR (g : Page) (n y : Nat) : Int32 := if (g 10).toInt ≤ n then -9 else g (92 + 3 * n + y)
theorem t_hit {K : KS} {x y : Int32} (n w : Nat) (hx : x = nI n) (hn : n < 2147483648) (hy : y = nI w) (hw : w ≤ 2) : Does (wp_L_tryHit x y) K (hitR K.1 n w) K := by
  intro M Q R k
  obtain ⟨⟨⟨h, s, e⟩, v⟩, -⟩ := id R
  obtain ⟨-, -, -, -, -, -, -, -, -, v10, -⟩ := id v
  have e10 : h 10 = K.1 10 := e.lo (by decide)
  have xi : x.toInt = n := by rw [hx, nI_toInt (by omega)]
  have yi : y.toInt = w := by rw [hy, nI_toInt (by omega)]
  have G : ∀ r, r = hitR K.1 n w → Q r M := fun r hr => by rw [hr]; exact k _ R
  unfold hitR at G
  simp only [wp_L_tryHit, wp_X4_hit, forall_eq]
  rw [s_lt0, s_lt0, i32_le, d2', i32_lt, s.hits, e10, xi, yi]
  refine ⟨fun c => absurd c (by omega), fun c => ⟨fun c2 => absurd c2 (by omega), fun c2 => ⟨fun c3 => ⟨fun c4 => ?_, fun c4 => ?_⟩, fun c3 => absurd c3 (by omega)⟩⟩⟩
  · rw [if_neg (by omega)] at G
    obtain ⟨t, ht, et⟩ := s.top
    rw [hx, hy]
    refine s_rowOfHit et ht (by omega) ?_
    rw [nI_lit3, nI_addn, nI_clamp (by omega), s.hit et ht (by omega) (by omega)]
    have := e.2.2.1 (3 * n + w) (by omega)
    rw [← Nat.add_assoc] at this
    rw [this]
    exact ⟨vp_in_nI (by omega) (by decide), G _ rfl⟩
  · rw [if_pos (by omega)] at G
    exact G _ rfl
theorem t_hitA {K : KS} {x y : Int32} (hx : ¬ (0 ≤ x.toInt ∧ 0 ≤ y.toInt ∧ y.toInt ≤ 2)) : Does (wp_L_tryHit x y) K (-1002) K := by
  intro M Q R k
  simp only [wp_L_tryHit, wp_X4_hit, forall_eq]
  rw [s_lt0, s_lt0, i32_le, d2']
  exact ⟨fun c => ⟨fun _ => k _ R, trivial⟩, fun c => ⟨fun c2 => ⟨fun _ => k _ R, trivial⟩, fun c2 => ⟨fun c3 => absurd ⟨by omega, by omega, c3⟩ hx, fun c3 => ⟨fun _ => k _ R, trivial⟩⟩⟩⟩
theorem t_reading {K : KS} {x y : Int32} (n w : Nat) (hx : x = nI n) (hn : n < rn K.1) (hy : y = nI w) (hw : w ≤ 2) : Does (wp_L_tryReading x y) K (K.1 (152 + (3 * n + w))) K := by
  intro M Q R k
  obtain ⟨⟨⟨h, s, e⟩, v⟩, -⟩ := id R
  obtain ⟨-, -, -, -, -, -, -, -, -, -, v11, -⟩ := id v
  have hp : rn K.1 ≤ 20 := by unfold rn; omega
  have e11 : h 11 = K.1 11 := e.lo (by decide)
  have en := rn_of v11.1
  have xi : x.toInt = n := by rw [hx, nI_toInt (by omega)]
  have yi : y.toInt = w := by rw [hy, nI_toInt (by omega)]
  simp only [wp_L_tryReading, wp_X4_reading, wp_X4_checkReading, forall_eq]
  rw [s_lt0, s_lt0, i32_le, d2', i32_lt, s.reads, e11, en]
  refine ⟨fun c => absurd c (by omega), fun c => ⟨fun c2 => ⟨fun c3 => absurd c3 (by omega), fun c3 => ⟨fun c4 => ?_, fun c4 => absurd c4 (by omega)⟩⟩, fun c2 => absurd c2 (by omega)⟩⟩
  have g2 := e.2.2.2 (3 * n + w) (by omega)
  rw [hx, hy, nI_lit3, nI_addn, nI_clamp (by omega), s.row (by omega), g2]
  exact ⟨vp_in_nI (by omega) (by decide), k _ R⟩
theorem t_readingI {K : KS} {x y : Int32} (v : Val K.1) (hx : ¬ (0 ≤ x.toInt ∧ x.toInt < rn K.1)) : Does (wp_L_tryReading x y) K (-1001) K := by
  intro M Q R k
  obtain ⟨⟨⟨h, s, e⟩, -⟩, -⟩ := id R
  obtain ⟨-, -, -, -, -, -, -, -, -, -, v11, -⟩ := id v
  have e11 : h 11 = K.1 11 := e.lo (by decide)
  have en := rn_of v11.1
  simp only [wp_L_tryReading, wp_X4_reading, wp_X4_checkReading, forall_eq]
  rw [s_lt0, s_lt0, i32_le, d2', i32_lt, s.reads, e11, en]
  exact ⟨fun c => ⟨fun _ => k _ R, fun z => absurd z (by decide), Or.inl trivial⟩, fun c => ⟨fun c2 => absurd ⟨by omega, c2⟩ hx, fun c2 => ⟨fun _ => k _ R, fun z => absurd z (by decide), Or.inl trivial⟩⟩⟩
theorem t_readingA {K : KS} {x y : Int32} (n : Nat) (v : Val K.1) (hx : x = nI n) (hn : n < rn K.1) (hy : ¬ (0 ≤ y.toInt ∧ y.toInt ≤ 2)) : Does (wp_L_tryReading x y) K (-1002) K := by
  intro M Q R k
  obtain ⟨⟨⟨h, s, e⟩, -⟩, -⟩ := id R
  obtain ⟨-, -, -, -, -, -, -, -, -, -, v11, -⟩ := id v
  have hp : rn K.1 ≤ 20 := by unfold rn; omega
  have e11 : h 11 = K.1 11 := e.lo (by decide)
  have en := rn_of v11.1
  have xi : x.toInt = n := by rw [hx, nI_toInt (by omega)]
  simp only [wp_L_tryReading, wp_X4_reading, wp_X4_checkReading, forall_eq]
  rw [s_lt0, s_lt0, i32_le, d2', i32_lt, s.reads, e11, en]
  exact ⟨fun c => absurd c (by omega), fun c => ⟨fun c2 => ⟨fun c3 => ⟨fun z => absurd z (by decide), fun _ => k _ R, Or.inr trivial⟩, fun c3 => ⟨fun c4 => absurd ⟨by omega, c4⟩ hy, fun c4 => ⟨fun z => absurd z (by decide), fun _ => k _ R, Or.inr trivial⟩⟩⟩, fun c2 => absurd c2 (by omega)⟩⟩
theorem t_sine {K : KS} {x : Int32} (h : -90 ≤ x.toInt ∧ x.toInt ≤ 90) : Does (wp_L_trySine x) K (sinF x) K := by
  intro M Q R k
  simp only [wp_L_trySine, wp_X4_sine, forall_eq]
  exact s_fits (fun w hw ok => ⟨fun _ => s_sineOf h.1 h.2 (k _ R), fun z => absurd z (by decide)⟩) (fun no => absurd (by unfold SetOK; omega) (no 0 (by decide) rfl))
theorem t_sineA {K : KS} {x : Int32} (h : ¬ (-90 ≤ x.toInt ∧ x.toInt ≤ 90)) : Does (wp_L_trySine x) K (-1002) K := by
  intro M Q R k
  simp only [wp_L_trySine, wp_X4_sine, forall_eq]
  refine s_fits (fun w hw ok => ?_) (fun no => ⟨fun z => absurd rfl z, fun _ => ⟨fun _ => k _ R, trivial⟩⟩)
  have w0 : w = 0 := by
    have h1 := ok.1
    have := congrArg Int32.toInt hw
    rw [i0, nI_toInt (by omega)] at this
    omega
  subst w0
  exact absurd (ok.2.1 rfl) h

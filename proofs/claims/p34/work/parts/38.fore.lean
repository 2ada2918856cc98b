theorem stepF_f (b : Int32) : ∀ (n : Nat) (g : Page) (c f f' : Int32), (stepN b n (g, c, f)).1 = (stepN b n (g, c, f')).1 ∧ (stepN b n (g, c, f)).2.1 = (stepN b n (g, c, f')).2.1
  | 0, _, _, _, _ => ⟨rfl, rfl⟩
  | n + 1, g, c, f, f' => by
    obtain ⟨h1, h2⟩ := stepF_f b n g c f f'
    constructor
    · show (stepF b (stepN b n (g, c, f)).1).1 = (stepF b (stepN b n (g, c, f')).1).1
      rw [h1]
    · show (stepN b n (g, c, f)).2.1 + (stepF b (stepN b n (g, c, f)).1).2.1 = (stepN b n (g, c, f')).2.1 + (stepF b (stepN b n (g, c, f')).1).2.1
      rw [h1, h2]
/-! FORECASTS -/
theorem s_startTrial {M : Mem} {Q : Mem → Prop} {h : Page} (s : St M 0 h) (v : Val h) (k : ∀ M1, St M1 1 h → Mot M1 1 h (-9) → FrM M M1 1 → Q M1) : wp_X4_startTrial M Q := by
  unfold wp_X4_startTrial
  exact s_copyFrom s (by decide) (fun M1 s1 f1 => s_beginM (by decide) s1 v (fun M2 s2 m2 f2 => k M2 s2 m2 (f1.M.trans f2)))
theorem eq4 {x : Int32} (h : 0 ≤ x.toInt ∧ x.toInt ≤ 3) : x = 0 ∨ x = 1 ∨ x = 2 ∨ x = 3 := by
  have d3 : (3 : Int32).toInt = 3 := rfl
  rw [i32_eq, i32_eq, i32_eq, i32_eq, i0, i1, d2', d3]; omega
theorem mu_lt {n N : Nat} (h : n < N) (hN : N ≤ 1000000) : N - (nI n + 1).toNatClampNeg < N - (nI n).toNatClampNeg := by
  rw [nI_1, nI_clamp (by omega), nI_clamp (by omega)]; omega
theorem step_keep {g : Page} (v : Val g) (b : Int32) : pn (stepF b g).1 = pn g ∧ ∀ j, j < pn g → (stepF b g).1 (12 + 2 * j) = g (12 + 2 * j) := by
  have hp : pn g ≤ 40 := by have := v.pins.1; unfold pn; omega
  rcases step_cases v b with e | ⟨kk, hkk, -, -, -, e⟩
  · rw [e]
    exact ⟨pn_upd (by decide), fun j hj => by show upd g 5 _ _ = _; rw [updE, if_neg (by omega)]⟩
  · rw [e]
    have q : ∀ j, j = 9 ∨ (12 ≤ j ∧ j < 92 ∧ j % 2 = 0) → hitF (upd g 5 (aroundF (g 5 + b))) kk j = g j := fun j hj => by
      rw [hitF_lo _ _ (by omega), if_neg (by omega), updE, if_neg (by omega), updE, if_neg (by omega), updE, if_neg (by omega)]
    refine ⟨?_, fun j hj => q _ (by omega)⟩
    show pn (hitF _ _) = _
    unfold pn
    rw [q 9 (Or.inl rfl)]
theorem stepN_keep {b : Int32} : ∀ (n : Nat) {s : Page × Int32 × Int32}, Val s.1 → pn (stepN b n s).1 = pn s.1 ∧ ∀ j, j < pn s.1 → (stepN b n s).1 (12 + 2 * j) = s.1 (12 + 2 * j)
  | 0, _, _ => ⟨rfl, fun _ _ => rfl⟩
  | n + 1, s, v => by
    obtain ⟨h1, h2⟩ := stepN_keep (b := b) n v
    obtain ⟨h3, h4⟩ := step_keep (Val_stepN (b := b) n v) b
    exact ⟨h3.trans h1, fun j hj => (h4 j (by rw [h1]; exact hj)).trans (h2 j hj)⟩
theorem turn_keep {g : Page} (v : Val g) (f : Int32) : pn (turnF g f).1 = pn g ∧ ∀ j, j < pn g → (turnF g f).1 (12 + 2 * j) = g (12 + 2 * j) := by
  have hp : pn g ≤ 40 := by have := v.pins.1; unfold pn; omega
  obtain ⟨v0, v1, -, -, -, -, v6, -⟩ := id v
  have hr := rest_val v0 v1 v6
  obtain ⟨a1, a2⟩ := stepN_keep (b := if 0 ≤ wayF g then 1 else -1) (wayF g).natAbs (s := (upd g 6 (restF g), 0, f)) (Val_6 v ⟨hr.2.1, hr.2.2⟩)
  have e6 : pn (upd g 6 (restF g)) = pn g := pn_upd (by decide)
  unfold turnF
  split
  · refine ⟨?_, fun j hj => ?_⟩
    · show pn (upd _ 8 _) = _
      rw [pn_upd (by decide)]
      unfold pn
      rw [dragF_ne _ (by decide)]
      exact a1.trans e6
    · show upd _ 8 _ _ = _
      rw [updE, if_neg (by omega), dragF_ne _ (by omega)]
      refine (a2 j (by rw [e6]; exact hj)).trans ?_
      show upd g 6 _ _ = _
      rw [updE, if_neg (by omega)]
  · exact ⟨pn_upd (by decide), fun j hj => by show upd g 8 _ _ = _; rw [updE, if_neg (by omega)]⟩
theorem turnN_pn {g : Page} {c f : Int32} (n : Nat) (v : Val g) : pn (turnN n (g, c, f)).1 = pn g := by
  induction n with
  | zero => rfl
  | succ n ih => exact (turn_keep (Val_turnN n (s := (g, c, f)) v) _).1.trans ih
def srch (P : Nat → Bool) (val : Nat → Int32) : Nat → Nat → Int32
  | 0, _ => -9
  | f + 1, n => if P n = true then val n else srch P val f (n + 1)


theorem d9999 : (9999 : Int32).toInt = 9999 := rfl
theorem srch_s {P : Nat → Bool} {val : Nat → Int32} {N n : Nat} (h : n < N) : srch P val (N - n) n = if P n = true then val n else srch P val (N - (n + 1)) (n + 1) := by
  obtain ⟨m, hm⟩ : ∃ m, N - n = m + 1 := ⟨N - n - 1, by omega⟩
  rw [hm, show N - (n + 1) = m by omega]
  rfl
def allB (p : Nat → Bool) : Nat → Bool
  | 0 => true
  | n + 1 => allB p n && p n
theorem allB_iff {p : Nat → Bool} : ∀ {n : Nat}, allB p n = true ↔ ∀ i, i < n → p i = true
  | 0 => ⟨fun _ i h => absurd h (by omega), fun _ => rfl⟩
  | n + 1 => by
    show (allB p n && p n) = true ↔ _
    rw [Bool.and_eq_true, allB_iff]
    refine ⟨fun h i hi => ?_, fun h => ⟨fun i hi => h i (by omega), h n (by omega)⟩⟩
    by_cases c : i = n
    · subst c; exact h.2
    · exact h.1 i (by omega)
def inR (g : Page) (i : Nat) : Bool := decide ((turnN (i + 1) (g, 0, -9)).1 3 ≤ (turnN (i + 1) (g, 0, -9)).1 7)
theorem inR_PEq {h g : Page} (v : Val g) (e : PEq h g) : inR h = inR g := by
  funext i
  have E := PEq_turnN (i + 1) (s := (h, 0, -9)) (t := (g, 0, -9)) v ⟨e, rfl⟩
  unfold inR
  rw [E.1.lo (by decide), E.1.lo (by decide)]
theorem s_stays {n : Nat} (hn : n < 100000) {h : Page} {M : Mem} {Q : Int32 → Mem → Prop} (s : St M 1 h) (v : Val h) (m : Mot M 1 h (-9)) (k : ∀ M', FrM M M' 1 → Q (if allB (inR h) n = true then 1 else 0) M') : wp_X4_staysInReach (nI n) M Q := by
  refine ⟨fun w M' => ∃ i, i ≤ n ∧ w = nI i ∧ St M' 1 (turnN i (h, 0, -9)).1 ∧ Mot M' 1 (turnN i (h, 0, -9)).1 (turnN i (h, 0, -9)).2.2 ∧ FrM M M' 1 ∧ ∀ j, j < i → inR h j = true, fun w _ => 100000 - w.toNatClampNeg, ⟨0, Nat.zero_le _, rfl, s, m, FrM.rfl', fun j hj => absurd hj (by omega)⟩, ?_⟩
  rintro w M' ⟨i, hi, rfl, s2, m2, f2, ha⟩
  simp only [forall_eq]
  rw [nI_leI (by omega) (by omega)]
  refine ⟨fun c => ?_, fun c => ?_⟩
  · have : i = n := by omega
    subst this
    have := k M' f2
    rw [if_pos (allB_iff.mpr ha)] at this
    exact this
  · refine s_turn (by decide) s2 (Val_turnN i (s := (h, 0, -9)) v) m2 (fun M3 s3 m3 f3 => ?_)
    rw [s3.height, s3.set (by decide)]
    refine ⟨fun c3 => ⟨⟨i + 1, by omega, nI_1 i, s3, m3, f2.trans f3, fun j hj => ?_⟩, mu_lt (by omega) (by decide)⟩, fun c3 => ?_⟩
    · by_cases d : j = i
      · subst d; exact decide_eq_true c3
      · exact ha j (by omega)
    · have := k M3 (f2.trans f3)
      rw [if_neg] at this
      · exact this
      · intro z
        have := of_decide_eq_true (allB_iff.mp z i (by omega))
        exact c3 this
theorem d200 : (200 : Int32).toInt = 200 := rfl
theorem mu_lt2 {n c N : Nat} (hc : 0 < c) (h : n < N) (hN : N ≤ 1000000) (hc2 : c ≤ 1000) : N - (nI (n + c)).toNatClampNeg < N - (nI n).toNatClampNeg := by
  rw [nI_clamp (by omega), nI_clamp (by omega)]; omega


theorem turnF_f (g : Page) (f f' : Int32) : (turnF g f).1 = (turnF g f').1 ∧ (turnF g f).2.1 = (turnF g f').2.1 := by
  unfold turnF
  split
  · dsimp only
    unfold moveF
    obtain ⟨h1, h2⟩ := stepF_f (if 0 ≤ wayF g then 1 else -1) (wayF g).natAbs (upd g 6 (restF g)) 0 f f'
    rw [h1, h2]
    exact ⟨rfl, rfl⟩
  · exact ⟨rfl, rfl⟩

theorem stepN_fall {b : Int32} {g : Page} (v : Val g) : ∀ n, n ≤ 15 → ∃ c, c ≤ n ∧ (stepN b n (g, 0, -9)).2.1 = nI c ∧ ((c = 0 ∧ (stepN b n (g, 0, -9)).2.2 = -9) ∨ (0 < c ∧ ∃ kk, kk < pn g ∧ (stepN b n (g, 0, -9)).2.2 = nI kk ∧ (stepN b n (g, 0, -9)).1 (92 + 3 * (c - 1)) = g (12 + 2 * kk)))
  | 0, _ => ⟨0, Nat.le_refl _, rfl, Or.inl ⟨rfl, rfl⟩⟩
  | n + 1, hn => by
    obtain ⟨c, hc, e1, e2⟩ := stepN_fall (b := b) v n (by omega)
    obtain ⟨k1, k2⟩ := stepN_keep (b := b) n (s := (g, 0, -9)) v
    have vn := Val_stepN (b := b) n (s := (g, 0, -9)) v
    have hp : pn g ≤ 40 := by have := v.pins.1; unfold pn; omega
    have E1 : (stepN b (n + 1) (g, 0, -9)).1 = (stepF b (stepN b n (g, 0, -9)).1).1 := rfl
    have E2 : (stepN b (n + 1) (g, 0, -9)).2.1 = (stepN b n (g, 0, -9)).2.1 + (stepF b (stepN b n (g, 0, -9)).1).2.1 := rfl
    have E3 : (stepN b (n + 1) (g, 0, -9)).2.2 = if (stepN b n (g, 0, -9)).2.2 = -9 then (stepF b (stepN b n (g, 0, -9)).1).2.2 else (stepN b n (g, 0, -9)).2.2 := rfl
    rw [E1, E2, E3, e1]
    generalize stepN b n (g, 0, -9) = S at k1 k2 vn e2
    have nn : ∀ z : Nat, z < 40 → ¬ nI z = -9 := fun z hz => by
      rw [i32_eq, nI_toInt (by omega)]
      have : (-9 : Int32).toInt = -9 := rfl
      omega
    rcases step_cases vn b with e | ⟨kk, hkk, ep, -, -, e⟩
    · rw [e]
      refine ⟨c, by omega, Int32.add_zero _, ?_⟩
      rcases e2 with ⟨h1, h2⟩ | ⟨h1, k', h2, h3, h4⟩
      · left; exact ⟨h1, by rw [h2, if_pos rfl]⟩
      · right
        refine ⟨h1, k', h2, by rw [h3, if_neg (nn k' (by omega))], ?_⟩
        show upd S.1 5 _ _ = _
        rw [updE, if_neg (by omega)]; exact h4
    · rw [e]
      have hkg : kk < pn g := by rw [← k1]; exact hkk
      refine ⟨c + 1, by omega, nI_1 c, Or.inr ⟨by omega, ?_⟩⟩
      rw [show c + 1 - 1 = c by omega]
      rcases e2 with ⟨h1, h2⟩ | ⟨h1, k', h2, h3, h4⟩
      · subst h1
        refine ⟨kk, hkg, by rw [h2, if_pos rfl], ?_⟩
        show hitF _ _ 92 = _
        have : hitF (upd S.1 5 (aroundF (S.1 5 + b))) kk 92 = aroundF (S.1 5 + b) := by
          unfold hitF
          simp (disch := omega) only [updE, if_neg, ite_true]
        rw [this, ← ep]
        exact k2 kk hkg
      · refine ⟨k', h2, by rw [h3, if_neg (nn k' (by omega))], ?_⟩
        show hitF _ _ (92 + 3 * c) = _
        rw [hitF_hi _ _ (by omega), updE, if_neg (by omega), updE, if_neg (by omega), updE, if_neg (by omega), show 92 + 3 * c - 3 = 92 + 3 * (c - 1) by omega]
        exact h4
theorem pinF_at {g : Page} (v : Val g) {k : Nat} (hk : k < pn g) : pinF g (g (12 + 2 * k)) = nI k := by
  obtain ⟨-, -, -, -, -, -, -, -, -, -, -, -, vd, -⟩ := id v
  rcases pinGo_spec g (g (12 + 2 * k)) (pn g) 0 with ⟨-, h2⟩ | ⟨j, -, hj, h3, h4, -⟩
  · exact absurd rfl (h2 k (by omega) (by omega))
  · have : j = k := vd j k (by omega) hk h4
    subst this; exact h3
theorem turnF_fall {g : Page} (v : Val g) : ∃ c, c ≤ 15 ∧ (turnF g (-9)).2.1 = nI c ∧ ((c = 0 ∧ (turnF g (-9)).2.2 = -9) ∨ (0 < c ∧ ∃ kk, kk < pn g ∧ (turnF g (-9)).2.2 = nI kk ∧ pinF (turnF g (-9)).1 ((turnF g (-9)).1 (92 + 3 * (c - 1))) = nI kk)) := by
  obtain ⟨v0, v1, -, -, -, -, v6, -⟩ := id v
  obtain ⟨-, -, w3, w4, -⟩ := way_val v0 v1 v6
  have hr := rest_val v0 v1 v6
  have v6' := Val_6 v ⟨hr.2.1, hr.2.2⟩
  have hp : pn g ≤ 40 := by have := v.pins.1; unfold pn; omega
  obtain ⟨tk1, tk2⟩ := turn_keep v (-9)
  have vt := Val_turn v (-9)
  obtain ⟨c, hc, e1, e2⟩ := stepN_fall (b := if 0 ≤ wayF g then 1 else -1) v6' (wayF g).natAbs (by omega)
  by_cases h7 : 0 < g 7
  · have et : turnF g (-9) = (upd (dragF (moveF g (-9)).1) 8 (dragF (moveF g (-9)).1 8 + 1), (moveF g (-9)).2.1, (moveF g (-9)).2.2) := by
      unfold turnF; rw [if_pos h7]
    refine ⟨c, by omega, by rw [et]; exact e1, ?_⟩
    rcases e2 with ⟨h1, h2⟩ | ⟨h1, kk, h2, h3, h4⟩
    · left; exact ⟨h1, by rw [et]; exact h2⟩
    · right
      have e6 : pn (upd g 6 (restF g)) = pn g := pn_upd (by decide)
      rw [e6] at h2
      refine ⟨h1, kk, h2, by rw [et]; exact h3, ?_⟩
      have ec : (turnF g (-9)).1 (92 + 3 * (c - 1)) = (turnF g (-9)).1 (12 + 2 * kk) := by
        rw [tk2 kk h2]
        have : (turnF g (-9)).1 (92 + 3 * (c - 1)) = (moveF g (-9)).1 (92 + 3 * (c - 1)) := by
          rw [et]
          show upd _ 8 _ _ = _
          rw [updE, if_neg (by omega), dragF_ne _ (by omega)]
        rw [this]
        refine h4.trans ?_
        rw [updE, if_neg (by omega)]
      rw [ec]
      exact pinF_at vt (by rw [tk1]; exact h2)
  · have et : turnF g (-9) = (upd g 8 (g 8 + 1), 0, -9) := by
      unfold turnF; rw [if_neg h7]
    exact ⟨0, by decide, by rw [et]; rfl, Or.inl ⟨rfl, by rw [et]⟩⟩
def flN (g : Page) (i : Nat) : Int32 := (turnF (turnN i (g, 0, -9)).1 (-9)).2.1
def fiN (g : Page) (i : Nat) : Int32 := (turnF (turnN i (g, 0, -9)).1 (-9)).2.2
theorem fl_PEq {h g : Page} (v : Val g) (e : PEq h g) : flN h = flN g ∧ fiN h = fiN g := by
  constructor
  · funext i
    have E := PEq_turnN i (s := (h, 0, -9)) (t := (g, 0, -9)) v ⟨e, rfl⟩
    have E2 := PEq_turn (-9) (Val_turnN i (s := (g, 0, -9)) v) E.1
    unfold flN; rw [E2.2]
  · funext i
    have E := PEq_turnN i (s := (h, 0, -9)) (t := (g, 0, -9)) v ⟨e, rfl⟩
    have E2 := PEq_turn (-9) (Val_turnN i (s := (g, 0, -9)) v) E.1
    unfold fiN; rw [E2.2]
theorem s_firstFall {n : Nat} (hn : n < 100000) {h : Page} {M : Mem} {Q : Int32 → Mem → Prop} (s : St M 1 h) (v : Val h) (m : Mot M 1 h (-9)) (k : ∀ M', FrM M M' 1 → Q (srch (fun i => decide (¬ flN h i = 0)) (fiN h) n 0) M') : wp_X4_firstFall (nI n) M Q := by
  generalize hR : srch (fun i => decide (¬ flN h i = 0)) (fiN h) n 0 = R at k
  refine ⟨fun w M' => ∃ i, i ≤ n ∧ w = nI i ∧ St M' 1 (turnN i (h, 0, -9)).1 ∧ Mot M' 1 (turnN i (h, 0, -9)).1 (-9) ∧ FrM M M' 1 ∧ srch (fun i => decide (¬ flN h i = 0)) (fiN h) (n - i) i = R, fun w _ => 100000 - w.toNatClampNeg, ⟨0, Nat.zero_le _, rfl, s, m, FrM.rfl', hR⟩, ?_⟩
  rintro w M' ⟨i, hi, rfl, s2, m2, f2, hs⟩
  simp only [forall_eq]
  rw [nI_leI (by omega) (by omega)]
  refine ⟨fun c => ?_, fun c => ?_⟩
  · have : i = n := by omega
    subst this
    rw [Nat.sub_self] at hs
    have hs' : -9 = R := hs
    rw [hs']; exact k _ f2
  · rw [srch_s (by omega)] at hs
    have vi := Val_turnN i (s := (h, 0, -9)) v
    obtain ⟨c, hc, e1, e2⟩ := turnF_fall vi
    have fl : flN h i = nI c := e1
    refine s_turn (by decide) s2 vi m2 (fun M3 s3 m3 f3 => ?_)
    rw [e1, i32_le, i0, nI_toInt (by omega)]
    have z0 : flN h i = 0 ↔ c = 0 := by rw [fl, i32_eq, nI_toInt (by omega), i0]; omega
    refine ⟨fun c3 => ?_, fun c3 => ?_⟩
    · have c0 : c = 0 := by omega
      rw [if_neg (by simpa using z0.mpr c0)] at hs
      rcases e2 with ⟨-, h2⟩ | ⟨h1, -⟩
      · rw [h2] at m3
        have t1 : (turnF (turnN i (h, 0, -9)).1 (-9)).1 = (turnN (i + 1) (h, 0, -9)).1 := (turnF_f _ _ _).1
        rw [t1] at s3 m3
        exact ⟨⟨i + 1, by omega, nI_1 i, s3, m3, f2.trans f3, hs⟩, mu_lt (by omega) (by decide)⟩
      · omega
    · rw [if_pos (by simpa using fun z => c3 (by have := z0.mp z; omega))] at hs
      have m4 := m3.2.2.1
      rw [m4]
      have : (turnF (turnN i (h, 0, -9)).1 (-9)).2.2 = R := hs
      rw [this]
      exact k _ (f2.trans f3)
def noF (g : Page) (i : Nat) : Bool := decide (flN g i = 0)
theorem ff_none {g : Page} (v : Val g) : ∀ (f n : Nat), srch (fun i => decide (¬ flN g i = 0)) (fiN g) f n = -9 ↔ ∀ i, n ≤ i → i < n + f → noF g i = true
  | 0, n => ⟨fun _ i h1 h2 => absurd h1 (by omega), fun _ => rfl⟩
  | f + 1, n => by
    unfold srch
    have ih := ff_none v f (n + 1)
    have hp : pn (turnN n (g, 0, -9)).1 ≤ 40 := by
      have := (Val_turnN n (s := (g, 0, -9)) v).pins.1
      unfold pn; omega
    by_cases c : flN g n = 0
    · rw [if_neg (by simpa using c), ih]
      refine ⟨fun h i h1 h2 => ?_, fun h i h1 h2 => h i (by omega) (by omega)⟩
      by_cases d : i = n
      · subst d; exact decide_eq_true c
      · exact h i (by omega) (by omega)
    · rw [if_pos (by simpa using c)]
      refine ⟨fun h => ?_, fun h => absurd (of_decide_eq_true (h n (by omega) (by omega))) c⟩
      obtain ⟨c', hc, e1, e2⟩ := turnF_fall (Val_turnN n (s := (g, 0, -9)) v)
      rcases e2 with ⟨h1, -⟩ | ⟨-, kk, h2, h3, -⟩
      · exact absurd (by subst h1; exact e1) c
      · have : fiN g n = nI kk := h3
        rw [this] at h
        rw [i32_eq, nI_toInt (by omega)] at h
        have : (-9 : Int32).toInt = -9 := rfl
        omega

def aheadR (g : Page) (n w : Nat) : Int32 := if w = 0 then (turnN n (g, 0, -9)).1 5 else if w = 1 then (turnN n (g, 0, -9)).1 7 else if w = 2 then (turnN n (g, 0, -9)).2.1 else standF (turnN n (g, 0, -9)).1
theorem t_ahead {K : KS} {x y : Int32} (n w : Nat) (hx : x = nI n) (hn : n ≤ 500) (hy : y = nI w) (hw : w ≤ 3) : Does (wp_L_tryAhead x y) K (aheadR K.1 n w) K := by
  intro M Q R k
  obtain ⟨⟨⟨h, s, e⟩, v⟩, -⟩ := id R
  have vh := Val_PEq v e
  have d3 : (3 : Int32).toInt = 3 := rfl
  have xi : x.toInt = n := by rw [hx, nI_toInt (by omega)]
  have yi : y.toInt = w := by rw [hy, nI_toInt (by omega)]
  have eq : ∀ a, a < 100 → (y = nI a ↔ w = a) := fun a ha => by rw [hy, i32_eq, nI_toInt (by omega), nI_toInt (by omega)]; omega
  simp only [wp_L_tryAhead, wp_X4_ahead, forall_eq]
  rw [s_lt0, s_lt0, i32_lt, i32_le, d500, d3]
  refine ⟨fun c => absurd c (by omega), fun c => ⟨fun c2 => absurd c2 (by omega), fun c2 => ⟨fun c3 => absurd c3 (by omega), fun c3 => ⟨fun c4 => ?_, fun c4 => absurd c4 (by omega)⟩⟩⟩⟩
  rw [show (0 : Int32) = nI 0 from rfl, show (1 : Int32) = nI 1 from rfl, show (2 : Int32) = nI 2 from rfl, eq 0 (by decide), eq 1 (by decide), eq 2 (by decide)]
  subst hx
  refine s_startTrial s vh (fun M1 s1 m1 f1 => s_turns (by decide) (by omega) s1 vh m1 (fun M2 s2 m2 f2 => ?_))
  have J := R.trial (f1.trans f2)
  have T := PEq_turnN n (s := (h, 0, -9)) (t := (K.1, 0, -9)) v ⟨e, rfl⟩
  have vT := Val_turnN n (s := (K.1, 0, -9)) v
  have v9T := (Val_PEq vT T.1).pins.1
  have G : ∀ r, r = aheadR K.1 n w → Q r M2 := fun r hr => by rw [hr]; exact k _ J
  unfold aheadR at G
  rw [s2.dir, s2.height]
  refine ⟨fun z => ?_, fun z => ⟨fun z2 => ?_, fun z2 => ⟨fun z3 => ?_, fun z3 => s_standing s2 v9T ?_⟩⟩⟩
  · rw [if_pos z] at G; rw [T.1.lo (by decide)]; exact G _ rfl
  · rw [if_neg z, if_pos z2] at G; rw [T.1.lo (by decide)]; exact G _ rfl
  · rw [if_neg z, if_neg z2, if_pos z3] at G; rw [T.2]; exact G _ rfl
  · rw [if_neg z, if_neg z2, if_neg z3] at G; rw [PEq_stand T.1]; exact G _ rfl
theorem t_aheadA {K : KS} {x y : Int32} (c : ¬ (0 ≤ x.toInt ∧ x.toInt ≤ 500 ∧ 0 ≤ y.toInt ∧ y.toInt ≤ 3)) : Does (wp_L_tryAhead x y) K (-1002) K := by
  intro M Q R k
  have d3 : (3 : Int32).toInt = 3 := rfl
  simp only [wp_L_tryAhead, wp_X4_ahead, forall_eq]
  rw [s_lt0, s_lt0, i32_lt, i32_le, d500, d3]
  exact ⟨fun c => ⟨fun _ => k _ R, trivial⟩, fun c => ⟨fun c2 => ⟨fun _ => k _ R, trivial⟩, fun c2 => ⟨fun c3 => ⟨fun _ => k _ R, trivial⟩, fun c3 => ⟨fun c4 => absurd (by omega) c, fun c4 => ⟨fun _ => k _ R, trivial⟩⟩⟩⟩⟩
def fallR (g : Page) (kk : Nat) : Int32 := srch (fun n => decide ((turnN n (g, 0, -9)).1 (13 + 2 * kk) = 0)) nI 2001 0
theorem t_falls {K : KS} {x : Int32} (kk : Nat) (v : Val K.1) (hx : x = nI kk) (hk : kk < pn K.1) : Does (wp_L_tryFallsAfter x) K (fallR K.1 kk) K := by
  intro M Q R k
  obtain ⟨⟨⟨h, s, e⟩, -⟩, -⟩ := id R
  obtain ⟨-, -, -, -, -, -, -, -, v9, v10, -⟩ := id v
  have vh := Val_PEq v e
  have e9 : h 9 = K.1 9 := e.lo (by decide)
  have hp : pn K.1 ≤ 40 := by unfold pn; omega
  have en := pn_of v9.1
  have xi : x.toInt = kk := by rw [hx, nI_toInt (by omega)]
  simp only [wp_L_tryFallsAfter, wp_X4_fallsAfter, wp_X4_checkPin, forall_eq]
  rw [s_lt0, i32_lt, s.pins, e9, en]
  refine ⟨fun c => absurd c (by omega), fun c => ⟨fun c2 => ?_, fun c2 => absurd (by omega) c2⟩⟩
  subst hx
  have keep : ∀ n t, PE2 t (turnN n (K.1, 0, -9)) → kk < pn (turnN n (K.1, 0, -9)).1 → t.1 (13 + 2 * kk) = (turnN n (K.1, 0, -9)).1 (13 + 2 * kk) := fun n t ht hk => (ht.1.2.1 kk hk).2
  have pk : ∀ n, kk < pn (turnN n (K.1, 0, -9)).1 := fun n => by
    have := turnN_pn n (g := K.1) (c := 0) (f := -9) v
    omega
  unfold fallR at k
  generalize hR : srch (fun n => decide ((turnN n (K.1, 0, -9)).1 (13 + 2 * kk) = 0)) nI 2001 0 = r at k
  refine s_startTrial s vh (fun M1 s1 m1 f1 => ?_)
  refine ⟨fun w M' => ∃ n, n ≤ 2001 ∧ w = nI n ∧ St M' 1 (turnN n (h, 0, -9)).1 ∧ Mot M' 1 (turnN n (h, 0, -9)).1 (turnN n (h, 0, -9)).2.2 ∧ FrM M M' 1 ∧ srch (fun n => decide ((turnN n (K.1, 0, -9)).1 (13 + 2 * kk) = 0)) nI (2001 - n) n = r, fun w _ => 3000 - w.toNatClampNeg, ⟨0, by decide, rfl, s1, m1, f1, hR⟩, ?_⟩
  rintro w M' ⟨n, hn1, rfl, s2, m2, f2, hs⟩
  have E := PEq_turnN n (s := (h, 0, -9)) (t := (K.1, 0, -9)) v ⟨e, rfl⟩
  rw [show (2000 : Int32) = nI 2000 from rfl, nI_ltI (by omega) (by omega), nI_clamp (by omega), s2.stand (by omega), keep n _ E (pk n)]
  refine ⟨fun c => ?_, fun c => ⟨vp_in_nI (by omega) (by decide), fun c3 => ?_, fun c3 => ?_⟩⟩
  · have : n = 2001 := by omega
    subst this
    have hs' : -9 = r := hs
    rw [hs']; exact k _ (R.trial f2)
  · refine s_turn (by decide) s2 (Val_turnN n (s := (h, 0, -9)) vh) m2 (fun M3 s3 m3 f3 => ?_)
    rw [srch_s (by omega), if_neg (by simpa using c3)] at hs
    exact ⟨⟨n + 1, by omega, nI_1 n, s3, m3, f2.trans f3, hs⟩, mu_lt (by omega) (by decide)⟩
  · rw [srch_s (by omega), if_pos (by simpa using c3)] at hs
    rw [hs]; exact k _ (R.trial f2)
theorem t_fallsI {K : KS} {x : Int32} (v : Val K.1) (hx : ¬ (0 ≤ x.toInt ∧ x.toInt < pn K.1)) : Does (wp_L_tryFallsAfter x) K (-1001) K := by
  intro M Q R k
  obtain ⟨⟨⟨h, s, e⟩, -⟩, -⟩ := id R
  obtain ⟨-, -, -, -, -, -, -, -, v9, -⟩ := id v
  have e9 : h 9 = K.1 9 := e.lo (by decide)
  have en := pn_of v9.1
  simp only [wp_L_tryFallsAfter, wp_X4_fallsAfter, wp_X4_checkPin, forall_eq]
  rw [s_lt0, i32_lt, s.pins, e9, en]
  exact ⟨fun c => ⟨fun _ => k _ R, trivial⟩, fun c => ⟨fun c2 => absurd ⟨by omega, c2⟩ hx, fun c2 => ⟨fun _ => k _ R, trivial⟩⟩⟩
def lowR (g : Page) (x : Int32) : Int32 := srch (fun n => decide (¬ x < (turnN n (g, 0, -9)).1 7)) nI 3001 0
theorem t_low {K : KS} {x : Int32} (h1 : 0 ≤ x.toInt ∧ x.toInt ≤ 9999) : Does (wp_L_tryLowAfter x) K (lowR K.1 x) K := by
  intro M Q R k
  obtain ⟨⟨⟨h, s, e⟩, v⟩, -⟩ := id R
  have vh := Val_PEq v e
  simp only [wp_L_tryLowAfter, wp_X4_lowAfter, forall_eq]
  rw [s_lt0, i32_le, d9999]
  refine ⟨fun c => absurd c (by omega), fun c => ⟨fun c2 => ?_, fun c2 => absurd (by omega) c2⟩⟩
  have keep : ∀ n t, PE2 t (turnN n (K.1, 0, -9)) → t.1 7 = (turnN n (K.1, 0, -9)).1 7 := fun n t ht => ht.1.lo (by decide)
  unfold lowR at k
  generalize hR : srch (fun n => decide (¬ x < (turnN n (K.1, 0, -9)).1 7)) nI 3001 0 = r at k
  refine s_startTrial s vh (fun M1 s1 m1 f1 => ?_)
  refine ⟨fun w M' => ∃ n, n ≤ 3001 ∧ w = nI n ∧ St M' 1 (turnN n (h, 0, -9)).1 ∧ Mot M' 1 (turnN n (h, 0, -9)).1 (turnN n (h, 0, -9)).2.2 ∧ FrM M M' 1 ∧ srch (fun n => decide (¬ x < (turnN n (K.1, 0, -9)).1 7)) nI (3001 - n) n = r, fun w _ => 4000 - w.toNatClampNeg, ⟨0, by decide, rfl, s1, m1, f1, hR⟩, ?_⟩
  rintro w M' ⟨n, hn1, rfl, s2, m2, f2, hs⟩
  have E := PEq_turnN n (s := (h, 0, -9)) (t := (K.1, 0, -9)) v ⟨e, rfl⟩
  rw [show (3000 : Int32) = nI 3000 from rfl, nI_ltI (by omega) (by omega), s2.height, keep n _ E]
  refine ⟨fun c => ?_, fun c => ?_⟩
  · have : n = 3001 := by omega
    subst this
    have hs' : -9 = r := hs
    rw [hs']; exact k _ (R.trial f2)
  · rw [srch_s (by omega)] at hs
    refine ⟨fun c3 => ?_, fun c3 => ?_⟩
    · refine s_turn (by decide) s2 (Val_turnN n (s := (h, 0, -9)) vh) m2 (fun M3 s3 m3 f3 => ?_)
      rw [if_neg (by simpa using c3)] at hs
      exact ⟨⟨n + 1, by omega, nI_1 n, s3, m3, f2.trans f3, hs⟩, mu_lt (by omega) (by decide)⟩
    · rw [if_pos (by simpa using c3)] at hs
      rw [hs]; exact k _ (R.trial f2)
theorem t_lowA {K : KS} {x : Int32} (h1 : ¬ (0 ≤ x.toInt ∧ x.toInt ≤ 9999)) : Does (wp_L_tryLowAfter x) K (-1002) K := by
  intro M Q R k
  simp only [wp_L_tryLowAfter, wp_X4_lowAfter, forall_eq]
  rw [s_lt0, i32_le, d9999]
  exact ⟨fun c => ⟨fun _ => k _ R, trivial⟩, fun c => ⟨fun c2 => absurd ⟨by omega, c2⟩ h1, fun c2 => ⟨fun _ => k _ R, trivial⟩⟩⟩
def pushR (g : Page) (n : Nat) : Int32 := srch (fun j => allB (inR (gainF g (nI (100 * j)))) n) (fun j => nI (100 * j)) 100 0
theorem t_pushFor {K : KS} {x : Int32} (n : Nat) (hx : x = nI n) (hn : 1 ≤ n ∧ n ≤ 200) : Does (wp_L_tryPushFor x) K (pushR K.1 n) K := by
  intro M Q R k
  obtain ⟨⟨⟨h, s, e⟩, v⟩, -⟩ := id R
  have vh := Val_PEq v e
  have xi : x.toInt = n := by rw [hx, nI_toInt (by omega)]
  simp only [wp_L_tryPushFor, wp_X4_pushFor, wp_X4_checkTurnsOfSearch, forall_eq]
  rw [i32_lt, i32_le, i1, d200]
  refine ⟨fun c => absurd c (by omega), fun c => ⟨fun c2 => ?_, fun c2 => absurd (by omega) c2⟩⟩
  subst hx
  unfold pushR at k
  generalize hR : srch (fun j => allB (inR (gainF K.1 (nI (100 * j)))) n) (fun j => nI (100 * j)) 100 0 = r at k
  have vg : ∀ j, j < 100 → 0 ≤ (nI (100 * j)).toInt ∧ (nI (100 * j)).toInt ≤ 9999 := fun j hj => by rw [nI_toInt (by omega)]; omega
  refine ⟨fun w M' => ∃ j, j ≤ 100 ∧ w = nI (100 * j) ∧ FrM M M' 1 ∧ srch (fun j => allB (inR (gainF K.1 (nI (100 * j)))) n) (fun j => nI (100 * j)) (100 - j) j = r, fun w _ => 20000 - w.toNatClampNeg, ⟨0, by decide, rfl, FrM.rfl', hR⟩, ?_⟩
  rintro w M' ⟨j, hj, rfl, f2, hs⟩
  rw [show (9900 : Int32) = nI 9900 from rfl, nI_ltI (by omega) (by omega)]
  refine ⟨fun c => ?_, fun c => ?_⟩
  · have : j = 100 := by omega
    subst this
    have hs' : -9 = r := hs
    rw [hs']; exact k _ (R.trial f2)
  · rw [srch_s (by omega)] at hs
    have s0 : St M' 0 h := s.frame' (fun r hr => f2 _ (by omega) (by omega))
    refine s_startTrial s0 vh (fun M1 s1 m1 f1 => s_gain s1 (fun M3 s3 f3 => ?_))
    have m3 : Mot M3 1 (gainF h (nI (100 * j))) (-9) := m1.cong (f3.mo (by decide)) (fun i a b c => by unfold gainF; rw [updE, if_neg b])
    have q := inR_PEq (Val_gain v (vg j (by omega))) (PEq_gain (x := nI (100 * j)) e)
    refine s_stays (by omega) s3 (Val_gain vh (vg j (by omega))) m3 (fun M4 f4 => ?_)
    have fr := ((f2.trans f1).trans f3.M).trans f4
    rw [q]
    refine ⟨fun z => ⟨⟨j + 1, by omega, ?_, fr, ?_⟩, ?_⟩, fun z => ?_⟩
    · rw [show (100 : Int32) = nI 100 from rfl, nI_addn]; congr 1
    · rw [if_neg] at hs
      · exact hs
      · intro y; rw [if_pos y] at z; exact absurd z (by decide)
    · rw [show (100 : Int32) = nI 100 from rfl, nI_addn]; exact mu_lt2 (by decide) (by omega) (by decide) (by decide)
    · rw [if_pos] at hs
      · rw [hs]; exact k _ (R.trial fr)
      · by_cases y : allB (inR (gainF K.1 (nI (100 * j)))) n = true
        · exact y
        · rw [if_neg y] at z; exact absurd rfl z
theorem t_pushForA {K : KS} {x : Int32} (h1 : ¬ (1 ≤ x.toInt ∧ x.toInt ≤ 200)) : Does (wp_L_tryPushFor x) K (-1002) K := by
  intro M Q R k
  simp only [wp_L_tryPushFor, wp_X4_pushFor, wp_X4_checkTurnsOfSearch, forall_eq]
  rw [i32_lt, i32_le, i1, d200]
  exact ⟨fun c => ⟨fun _ => k _ R, trivial⟩, fun c => ⟨fun c2 => absurd ⟨by omega, c2⟩ h1, fun c2 => ⟨fun _ => k _ R, trivial⟩⟩⟩
def nextR (g : Page) : Int32 := srch (fun i => decide (¬ flN g i = 0)) (fiN g) 2000 0
theorem t_next {K : KS} : Does wp_X4_next K (nextR K.1) K := by
  intro M Q R k
  obtain ⟨⟨⟨h, s, e⟩, v⟩, -⟩ := id R
  have vh := Val_PEq v e
  simp only [wp_X4_next]
  refine s_startTrial s vh (fun M1 s1 m1 f1 => s_firstFall (n := 2000) (by decide) s1 vh m1 (fun M2 f2 => ?_))
  rw [(fl_PEq v e).1, (fl_PEq v e).2]
  exact k _ (R.trial (f1.trans f2))
def freeR (g : Page) (n : Nat) : Int32 := srch (fun j => allB (noF (upd g 5 (nI (60 * j)))) n) (fun j => nI (60 * j)) 180 0
theorem t_free {K : KS} {x : Int32} (n : Nat) (hx : x = nI n) (hn : 1 ≤ n ∧ n ≤ 200) : Does (wp_L_tryFreeStart x) K (freeR K.1 n) K := by
  intro M Q R k
  obtain ⟨⟨⟨h, s, e⟩, v⟩, -⟩ := id R
  have vh := Val_PEq v e
  have xi : x.toInt = n := by rw [hx, nI_toInt (by omega)]
  simp only [wp_L_tryFreeStart, wp_X4_freeStart, wp_X4_checkTurnsOfSearch, forall_eq]
  rw [i32_lt, i32_le, i1, d200]
  refine ⟨fun c => absurd c (by omega), fun c => ⟨fun c2 => ?_, fun c2 => absurd (by omega) c2⟩⟩
  subst hx
  unfold freeR at k
  generalize hR : srch (fun j => allB (noF (upd K.1 5 (nI (60 * j)))) n) (fun j => nI (60 * j)) 180 0 = r at k
  have vg : ∀ j, j < 180 → 0 ≤ (nI (60 * j)).toInt ∧ (nI (60 * j)).toInt < 10800 := fun j hj => by rw [nI_toInt (by omega)]; omega
  have qq : ∀ j, j < 180 → ∀ t, PEq t K.1 → noF (upd t 5 (nI (60 * j))) = noF (upd K.1 5 (nI (60 * j))) := fun j hj t ht => by
    funext i
    unfold noF
    rw [(fl_PEq (Val_5 v (vg j hj)) (PEq_upd ht (by decide))).1]
  refine ⟨fun w M' => ∃ j, j ≤ 180 ∧ w = nI (60 * j) ∧ FrM M M' 1 ∧ srch (fun j => allB (noF (upd K.1 5 (nI (60 * j)))) n) (fun j => nI (60 * j)) (180 - j) j = r, fun w _ => 20000 - w.toNatClampNeg, ⟨0, by decide, rfl, FrM.rfl', hR⟩, ?_⟩
  rintro w M' ⟨j, hj, rfl, f2, hs⟩
  rw [show (10800 : Int32) = nI 10800 from rfl, nI_leI (by omega) (by omega)]
  refine ⟨fun c => ?_, fun c => ?_⟩
  · have : j = 180 := by omega
    subst this
    have hs' : -9 = r := hs
    rw [hs']; exact k _ (R.trial f2)
  · rw [srch_s (by omega)] at hs
    have s0 : St M' 0 h := s.frame' (fun r hr => f2 _ (by omega) (by omega))
    have vj := Val_5 vh (vg j (by omega))
    refine s_copyFrom s0 (by decide) (fun M1 s1 f1 => ?_)
    have s1' := s1.f (k := 1) (nI (60 * j)) (by decide) (by decide)
    refine s_beginM (by decide) s1' vj (fun M3 s3 m3 f3 => s_firstFall (by omega) s3 vj m3 (fun M4 f4 => ?_))
    have fr := (((f2.trans f1.M).trans FrS_mup0.M).trans f3).trans f4
    have key := ff_none vj n 0
    have key2 : allB (noF (upd K.1 5 (nI (60 * j)))) n = true ↔ ∀ i, 0 ≤ i → i < 0 + n → noF (upd h 5 (nI (60 * j))) i = true := by
      rw [allB_iff, qq j (by omega) h e]
      exact ⟨fun a i _ hi => a i (by omega), fun a i hi => a i (by omega) (by omega)⟩
    have key3 := key.trans key2.symm
    refine ⟨fun z => ⟨⟨j + 1, by omega, ?_, fr, ?_⟩, ?_⟩, fun z => ?_⟩
    · rw [show (60 : Int32) = nI 60 from rfl, nI_addn]; congr 1
    · rw [if_neg (fun y => z (key3.mpr y))] at hs
      exact hs
    · rw [show (60 : Int32) = nI 60 from rfl, nI_addn]; exact mu_lt2 (by decide) (by omega) (by decide) (by decide)
    · rw [if_pos (key3.mp z)] at hs
      rw [hs]; exact k _ (R.trial fr)
theorem t_freeA {K : KS} {x : Int32} (h1 : ¬ (1 ≤ x.toInt ∧ x.toInt ≤ 200)) : Does (wp_L_tryFreeStart x) K (-1002) K := by
  intro M Q R k
  simp only [wp_L_tryFreeStart, wp_X4_freeStart, wp_X4_checkTurnsOfSearch, forall_eq]
  rw [i32_lt, i32_le, i1, d200]
  exact ⟨fun c => ⟨fun _ => k _ R, trivial⟩, fun c => ⟨fun c2 => absurd ⟨by omega, c2⟩ h1, fun c2 => ⟨fun _ => k _ R, trivial⟩⟩⟩

/-! FORECASTS: ON THE TRIAL STATE AND THE REFERENCE's TRIAL PAGE -/
theorem LInv.trial {M M1 : Mem} (I : LInv M) (f : FrM M M1 1) : LInv M1 :=
  I.fr (fun c h => f c (by omega) (by omega)) (by rw [f 117 (by omega) (by omega)]) (by rw [f 117 (by omega) (by omega)])
theorem LInv.page {M : Mem} {t : Page} (I : LInv M) : LInv (va_up M 121 t) :=
  I.fr (fun c h => vu_ne (by omega)) (by rw [vu_ne (by decide)]) (by rw [vu_ne (by decide)])
theorem s_startTrial {M : Mem} {Q : Mem → Prop} {h : Page} (s : St M 0 h) (v : Val h) (k : ∀ M1, St M1 1 h → Mot M1 1 h (-9) → FrM M M1 1 → Q M1) : wp_X4_startTrial M Q := by
  unfold wp_X4_startTrial
  exact s_copyFrom s (by decide) (fun M1 s1 f1 => s_beginM (by decide) s1 v (fun M2 s2 m2 f2 => k M2 s2 m2 (f1.M.trans f2)))
theorem s5_trial {M2 : Mem} {Q : Mem → Prop} (v : Val (M2 120)) (k : ∀ g0, PEq g0 (M2 120) → Val g0 → Q (va_up M2 121 g0)) : wp_X5_copyPage 120 212 121 212 0 0 M2 Q := by
  refine s5_copyPage (x := 0) (y := 0) (by decide) (by decide) (by decide) (by decide) (by decide) ?_
  have gE : ∀ j, j < 212 → cpF (M2 120) (M2 121) 0 0 212 j = M2 120 j := fun j hj => by
    unfold cpF; rw [if_pos (by omega)]; congr 1
  exact k _ (PEq_lt v gE) (Val_lt v gE)
theorem tail_try {r : Int32} {K : Mem → Prop} {M1 : Mem} {t : Page} (I : LInv M1) (k : ∀ M', LInv M' → K M') : Tail 0 K r (va_up (mup (mup M1 126 0 r) 117 0 0) 121 t) :=
  tail_of (by rw [vu_ne (by decide), mk0]) (fun _ => by rw [vu_ne (by decide), mk1]) (k _ I.out.ref.page)
theorem mk120 {M : Mem} {x y : Int32} : mup (mup M 126 0 x) 117 0 y 120 = M 120 := by rw [mup_ne (by decide), mup_ne (by decide)]
theorem eq4 {x : Int32} (h : 0 ≤ x.toInt ∧ x.toInt ≤ 3) : x = 0 ∨ x = 1 ∨ x = 2 ∨ x = 3 := by
  have d3 : (3 : Int32).toInt = 3 := rfl
  rw [i32_eq, i32_eq, i32_eq, i32_eq, i0, i1, d2', d3]; omega
/-- ahead -/
theorem c_ahead {x y : Int32} {M : Mem} {V1 V2 : Prop} {K : Mem → Prop} (I : LInv M) (hv1 : V1) (hv2 : V2) (k : ∀ M', LInv M' → K M') :
    wp_L_ahead x y M (fun r7 M6 => V1 ∧ V2 ∧ wp_X5_ahead x y M6 (Tail r7 K)) := by
  obtain ⟨⟨h, s, e, v⟩, -⟩ := id I
  have vh := Val_PEq v e
  have d3 : (3 : Int32).toInt = 3 := rfl
  have bad : ¬ (0 ≤ x.toInt ∧ x.toInt ≤ 500 ∧ 0 ≤ y.toInt ∧ y.toInt ≤ 3) → V1 ∧ V2 ∧ wp_X5_ahead x y M (Tail 1 K) := fun c => by
    refine ⟨hv1, hv2, ?_⟩
    simp only [wp_X5_ahead, forall_eq]
    refine s5_in32 0 500 rfl rfl (fun a b => ⟨fun z => absurd z (by decide), fun _ => s5_in32 0 3 rfl rfl (fun a' b' => absurd ⟨a, b, a', b'⟩ c) (fun _ => ⟨fun _ => s5_ref1 ⟨fun z => absurd z (by decide), fun _ => tail_ref I (by decide) k⟩, fun z => absurd rfl z⟩)⟩) (fun _ => ⟨fun _ => s5_ref1 ⟨fun z => absurd z (by decide), fun _ => tail_ref I (by decide) k⟩, fun z => absurd rfl z⟩)
  simp only [wp_L_ahead, wp_X4_ahead, forall_eq]
  rw [s_lt0, s_lt0, i32_lt, i32_le, d500, d3]
  refine ⟨fun c => ⟨fun _ => bad (by omega), trivial⟩, fun c => ⟨fun c2 => ⟨fun _ => bad (by omega), trivial⟩, fun c2 => ⟨fun c3 => ⟨fun _ => bad (by omega), trivial⟩, fun c3 => ⟨fun c4 => ?_, fun c4 => ⟨fun _ => bad (by omega), trivial⟩⟩⟩⟩⟩
  have hx : x = nI x.toInt.toNat := nI_of_toInt (by omega)
  have hn : x.toInt.toNat ≤ 500 := by omega
  generalize x.toInt.toNat = n at hx hn
  subst hx
  refine s_startTrial s vh (fun M1 s1 m1 f1 => s_turns (by decide) (by omega) s1 vh m1 (fun M2 s2 m2 f2 => ?_))
  have J := I.trial (f1.trans f2)
  have g0 : M2 120 = M 120 := (f1.trans f2) 120 (by omega) (by omega)
  have T := PEq_turnN n (s := (h, 0, -9)) (t := (M 120, 0, -9)) v ⟨e, rfl⟩
  have vT := Val_turnN n (s := (M 120, 0, -9)) v
  have v9T := (Val_PEq vT T.1).pins.1
  have side : ∀ r, (∀ t, PE2 t (turnN n (M 120, 0, -9)) → r = (if y = 0 then t.1 5 else if y = 1 then t.1 7 else if y = 2 then t.2.1 else standF t.1)) → V1 ∧ V2 ∧ wp_X5_ahead (nI n) y (mup M2 126 0 r) (Tail 0 K) := by
    intro r hr
    refine ⟨hv1, hv2, ?_⟩
    simp only [wp_X5_ahead, forall_eq]
    refine s5_in32 0 500 rfl rfl (fun a b => ⟨fun z => absurd z (by decide), fun _ => s5_in32 0 3 rfl rfl (fun a' b' => ⟨fun z => absurd z (by decide), fun _ => s5_ref0 ⟨fun _ => ?_, fun z => absurd rfl z⟩⟩) (fun z => absurd (by omega) z)⟩) (fun z => absurd (by omega) z)
    refine s5_trial (by rw [mk120, g0]; exact v) (fun t0 e0 v0 => ?_)
    rw [mk120, g0] at e0
    refine s5_turnsOn (by decide) (by omega) vu_self v0 (J.out.ref.page).2.2.2.2 ?_
    rw [vu_vu]
    have E := PEq_turnN n (s := (t0, 0, -9)) (t := (M 120, 0, -9)) v ⟨e0, rfl⟩
    have hr' := hr _ E
    have vE := Val_turnN n (s := (t0, 0, -9)) v0
    refine ⟨fun c5 => ⟨fun c6 => ⟨fun c7 => ?_, fun c7 => ?_⟩, fun c6 => ?_⟩, fun c5 => ?_⟩
    · rw [if_neg c5, if_neg c6, if_neg c7] at hr'
      refine s5_standing vu_self vE.pins.1 ?_
      rw [← hr']; exact tail_try J k
    · rw [if_neg c5, if_neg c6, if_pos c7] at hr'
      rw [← hr']; exact tail_try J k
    · rw [if_neg c5, if_pos c6] at hr'
      rw [vu_self, ← hr']; exact tail_try J k
    · rw [if_pos c5] at hr'
      rw [vu_self, ← hr']; exact tail_try J k
  rw [s2.dir, s2.height]
  refine ⟨fun z => side _ (fun t ht => ?_), fun z => ⟨fun z2 => side _ (fun t ht => ?_), fun z2 => ⟨fun z3 => side _ (fun t ht => ?_), fun z3 => s_standing s2 v9T (side _ (fun t ht => ?_))⟩⟩⟩
  · rw [if_pos z, T.1.lo (by decide), ht.1.lo (by decide)]
  · rw [if_neg z, if_pos z2, T.1.lo (by decide), ht.1.lo (by decide)]
  · rw [if_neg z, if_neg z2, if_pos z3, T.2, ht.2]
  · rw [if_neg z, if_neg z2, if_neg z3, PEq_stand T.1, PEq_stand ht.1]
theorem mu_lt {n N : Nat} (h : n < N) (hN : N ≤ 1000000) : N - (nI n + 1).toNatClampNeg < N - (nI n).toNatClampNeg := by
  rw [nI_1, nI_clamp (by omega), nI_clamp (by omega)]; omega
theorem step_keep {g : Page} (v : Val g) (b : Int32) : pn (stepF b g).1 = pn g ∧ ∀ j, j < pn g → (stepF b g).1 (12 + 2 * j) = g (12 + 2 * j) := by
  have hp : pn g ≤ 40 := by have := v.pins.1; unfold pn; omega
  rcases step_cases v b with e | ⟨kk, hkk, -, -, -, e⟩
  · rw [e]
    exact ⟨pn_upd (by decide), fun j hj => by show upd g 5 _ _ = _; rw [updE, if_neg (by omega)]⟩
  · rw [e]
    have q : ∀ j, j = 9 ∨ (12 ≤ j ∧ j < 92 ∧ j % 2 = 0) → hitF (upd g 5 (aroundF (g 5 + b))) kk j = g j := fun j hj => by
      rw [hitF_lo _ _ (by omega), if_neg (by omega), updE, if_neg (by omega), updE, if_neg (by omega), updE, if_neg (by omega)]
    refine ⟨?_, fun j hj => q _ (by omega)⟩
    show pn (hitF _ _) = _
    unfold pn
    rw [q 9 (Or.inl rfl)]
theorem stepN_keep {b : Int32} : ∀ (n : Nat) {s : Page × Int32 × Int32}, Val s.1 → pn (stepN b n s).1 = pn s.1 ∧ ∀ j, j < pn s.1 → (stepN b n s).1 (12 + 2 * j) = s.1 (12 + 2 * j)
  | 0, _, _ => ⟨rfl, fun _ _ => rfl⟩
  | n + 1, s, v => by
    obtain ⟨h1, h2⟩ := stepN_keep (b := b) n v
    obtain ⟨h3, h4⟩ := step_keep (Val_stepN (b := b) n v) b
    exact ⟨h3.trans h1, fun j hj => (h4 j (by rw [h1]; exact hj)).trans (h2 j hj)⟩
theorem turn_keep {g : Page} (v : Val g) (f : Int32) : pn (turnF g f).1 = pn g ∧ ∀ j, j < pn g → (turnF g f).1 (12 + 2 * j) = g (12 + 2 * j) := by
  have hp : pn g ≤ 40 := by have := v.pins.1; unfold pn; omega
  obtain ⟨v0, v1, -, -, -, -, v6, -⟩ := id v
  have hr := rest_val v0 v1 v6
  obtain ⟨a1, a2⟩ := stepN_keep (b := if 0 ≤ wayF g then 1 else -1) (wayF g).natAbs (s := (upd g 6 (restF g), 0, f)) (Val_6 v ⟨hr.2.1, hr.2.2⟩)
  have e6 : pn (upd g 6 (restF g)) = pn g := pn_upd (by decide)
  unfold turnF
  split
  · refine ⟨?_, fun j hj => ?_⟩
    · show pn (upd _ 8 _) = _
      rw [pn_upd (by decide)]
      unfold pn
      rw [dragF_ne _ (by decide)]
      exact a1.trans e6
    · show upd _ 8 _ _ = _
      rw [updE, if_neg (by omega), dragF_ne _ (by omega)]
      refine (a2 j (by rw [e6]; exact hj)).trans ?_
      show upd g 6 _ _ = _
      rw [updE, if_neg (by omega)]
  · exact ⟨pn_upd (by decide), fun j hj => by show upd g 8 _ _ = _; rw [updE, if_neg (by omega)]⟩
theorem turnN_pn {g : Page} {c f : Int32} (n : Nat) (v : Val g) : pn (turnN n (g, c, f)).1 = pn g := by
  induction n with
  | zero => rfl
  | succ n ih => exact (turn_keep (Val_turnN n (s := (g, c, f)) v) _).1.trans ih
/-- the first n that a test lets pass -/
def srch (P : Nat → Bool) (val : Nat → Int32) : Nat → Nat → Int32
  | 0, _ => -9
  | f + 1, n => if P n = true then val n else srch P val f (n + 1)
/-- fallsAfter -/
theorem c_fallsAfter {x : Int32} {M : Mem} {V : Prop} {K : Mem → Prop} (I : LInv M) (hv : V) (k : ∀ M', LInv M' → K M') :
    wp_L_fallsAfter x M (fun r7 M6 => V ∧ wp_X5_fallsAfter x M6 (Tail r7 K)) := by
  obtain ⟨⟨h, s, e, v⟩, -⟩ := id I
  obtain ⟨-, -, -, -, -, -, -, -, v9, v10, -⟩ := id v
  have vh := Val_PEq v e
  have e9 : h 9 = M 120 9 := e.lo (by decide)
  have hp : pn (M 120) ≤ 40 := by unfold pn; omega
  have en := pn_of v9.1
  have bad : ¬ (0 ≤ x.toInt ∧ x.toInt < pn (M 120)) → V ∧ wp_X5_fallsAfter x M (Tail 1 K) := fun c => by
    refine ⟨hv, ?_⟩
    simp only [wp_X5_fallsAfter, forall_eq]
    refine s5_isPin v9 (fun n h1 h2 => absurd (by rw [h2, nI_toInt (by omega)]; omega) c) (fun _ => ⟨fun _ => s5_ref1 ⟨fun z => absurd z (by decide), fun _ => tail_ref I (by decide) k⟩, fun z => absurd rfl z⟩)
  simp only [wp_L_fallsAfter, wp_X4_fallsAfter, wp_X4_checkPin, forall_eq]
  rw [s_lt0, i32_lt, s.pins, e9, en]
  refine ⟨fun c => ⟨fun _ => bad (by omega), trivial⟩, fun c => ⟨fun c2 => ?_, fun c2 => ⟨fun _ => bad (by omega), trivial⟩⟩⟩
  have hx : x = nI x.toInt.toNat := nI_of_toInt (by omega)
  have hn : x.toInt.toNat < pn (M 120) := by omega
  generalize x.toInt.toNat = kk at hx hn
  subst hx
  -- how it comes out
  have keep : ∀ n t, PE2 t (turnN n (M 120, 0, -9)) → kk < pn (turnN n (M 120, 0, -9)).1 → t.1 (13 + 2 * kk) = (turnN n (M 120, 0, -9)).1 (13 + 2 * kk) := fun n t ht hk => (ht.1.2.1 kk hk).2
  have pk : ∀ n, kk < pn (turnN n (M 120, 0, -9)).1 := fun n => by
    have := turnN_pn n (g := M 120) (c := 0) (f := -9) v
    omega
  generalize hR : srch (fun n => decide ((turnN n (M 120, 0, -9)).1 (13 + 2 * kk) = 0)) nI 2001 0 = R
  have side : ∀ M2, FrM M M2 1 → V ∧ wp_X5_fallsAfter (nI kk) (mup M2 126 0 R) (Tail 0 K) := by
    intro M2 f2
    have J := I.trial f2
    have g0 : M2 120 = M 120 := f2 120 (by omega) (by omega)
    refine ⟨hv, ?_⟩
    simp only [wp_X5_fallsAfter, forall_eq]
    have m120 : mup M2 126 0 R 120 = M 120 := by rw [mup_ne (by decide), g0]
    refine s5_isPin (by rw [m120]; exact v9) (fun n2 h1 h2 => ⟨fun z => absurd z (by decide), fun _ => s5_ref0 ⟨fun _ => ?_, fun z => absurd rfl z⟩⟩) (fun z => absurd (by rw [m120, nI_toInt (by omega)]; omega) z)
    refine s5_trial (by rw [mk120, g0]; exact v) (fun t0 e0 v0 => ?_)
    rw [mk120, g0] at e0
    refine ⟨fun w M' => ∃ n, n ≤ 2001 ∧ w = nI n ∧ M' = va_up (mup (mup M2 126 0 R) 117 0 0) 121 (turnN n (t0, 0, -9)).1 ∧ srch (fun n => decide ((turnN n (M 120, 0, -9)).1 (13 + 2 * kk) = 0)) nI (2001 - n) n = R, fun w _ => 3000 - w.toNatClampNeg, ⟨0, by decide, rfl, rfl, hR⟩, ?_⟩
    rintro w M' ⟨n, hn1, rfl, rfl, hs⟩
    have ei : (12 : Int32) + 2 * nI kk + 1 = nI (13 + 2 * kk) := by rw [nI_lit2, nI_12, nI_1]; congr 1; omega
    have E := PEq_turnN n (s := (t0, 0, -9)) (t := (M 120, 0, -9)) v ⟨e0, rfl⟩
    rw [show (2000 : Int32) = nI 2000 from rfl, nI_ltI (by omega) (by omega), ei, nI_clamp (by omega), vu_self, keep n _ E (pk n)]
    refine ⟨fun c => ?_, fun c => ⟨vp212 (by omega), fun c3 => ?_, fun c3 => ?_⟩⟩
    · have : n = 2001 := by omega
      subst this
      have hs' : -9 = R := hs
      rw [hs']; exact tail_try J k
    · refine s5_turnOn vu_self (Val_turnN n (s := (t0, 0, -9)) v0) (J.out.ref.page).2.2.2.2 ?_
      rw [vu_vu, ← (turnF_f _ (turnN n (t0, 0, -9)).2.2 (-9)).1]
      obtain ⟨m, hm⟩ : ∃ m, 2001 - n = m + 1 := ⟨2000 - n, by omega⟩
      rw [hm] at hs
      unfold srch at hs
      rw [if_neg (by simpa using c3)] at hs
      refine ⟨⟨n + 1, by omega, nI_1 n, rfl, by rw [show 2001 - (n + 1) = m by omega]; exact hs⟩, ?_⟩
      exact mu_lt (by omega) (by decide)
    · obtain ⟨m, hm⟩ : ∃ m, 2001 - n = m + 1 := ⟨2000 - n, by omega⟩
      rw [hm] at hs
      unfold srch at hs
      rw [if_pos (by simpa using c3)] at hs
      rw [hs]; exact tail_try J k
  refine s_startTrial s vh (fun M1 s1 m1 f1 => ?_)
  refine ⟨fun w M' => ∃ n, n ≤ 2001 ∧ w = nI n ∧ St M' 1 (turnN n (h, 0, -9)).1 ∧ Mot M' 1 (turnN n (h, 0, -9)).1 (turnN n (h, 0, -9)).2.2 ∧ FrM M M' 1 ∧ srch (fun n => decide ((turnN n (M 120, 0, -9)).1 (13 + 2 * kk) = 0)) nI (2001 - n) n = R, fun w _ => 3000 - w.toNatClampNeg, ⟨0, by decide, rfl, s1, m1, f1, hR⟩, ?_⟩
  rintro w M' ⟨n, hn1, rfl, s2, m2, f2, hs⟩
  have E := PEq_turnN n (s := (h, 0, -9)) (t := (M 120, 0, -9)) v ⟨e, rfl⟩
  rw [show (2000 : Int32) = nI 2000 from rfl, nI_ltI (by omega) (by omega), nI_clamp (by omega), s2.stand (by omega), keep n _ E (pk n)]
  refine ⟨fun c => ?_, fun c => ⟨vp_in_nI (by omega) (by decide), fun c3 => ?_, fun c3 => ?_⟩⟩
  · have : n = 2001 := by omega
    subst this
    have hs' : -9 = R := hs
    rw [hs']; exact side _ f2
  · refine s_turn (by decide) s2 (Val_turnN n (s := (h, 0, -9)) vh) m2 (fun M3 s3 m3 f3 => ?_)
    obtain ⟨m, hm⟩ : ∃ m, 2001 - n = m + 1 := ⟨2000 - n, by omega⟩
    rw [hm] at hs
    unfold srch at hs
    rw [if_neg (by simpa using c3)] at hs
    refine ⟨⟨n + 1, by omega, nI_1 n, s3, m3, f2.trans f3, by rw [show 2001 - (n + 1) = m by omega]; exact hs⟩, ?_⟩
    exact mu_lt (by omega) (by decide)
  · obtain ⟨m, hm⟩ : ∃ m, 2001 - n = m + 1 := ⟨2000 - n, by omega⟩
    rw [hm] at hs
    unfold srch at hs
    rw [if_pos (by simpa using c3)] at hs
    rw [hs]; exact side _ f2

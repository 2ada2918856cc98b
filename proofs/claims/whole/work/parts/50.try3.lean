/-! WHAT FALLS IN A TURN -/
theorem stepN_fall {b : Int32} {g : Page} (v : Val g) : ∀ n, n ≤ 15 → ∃ c, c ≤ n ∧ (stepN b n (g, 0, -9)).2.1 = nI c ∧ ((c = 0 ∧ (stepN b n (g, 0, -9)).2.2 = -9) ∨ (0 < c ∧ ∃ kk, kk < pn g ∧ (stepN b n (g, 0, -9)).2.2 = nI kk ∧ (stepN b n (g, 0, -9)).1 (92 + 3 * (c - 1)) = g (12 + 2 * kk)))
  | 0, _ => ⟨0, Nat.le_refl _, rfl, Or.inl ⟨rfl, rfl⟩⟩
  | n + 1, hn => by
    obtain ⟨c, hc, e1, e2⟩ := stepN_fall (b := b) v n (by omega)
    obtain ⟨k1, k2⟩ := stepN_keep (b := b) n (s := (g, 0, -9)) v
    have vn := Val_stepN (b := b) n (s := (g, 0, -9)) v
    have hp : pn g ≤ 40 := by have := v.pins.1; unfold pn; omega
    have E1 : (stepN b (n + 1) (g, 0, -9)).1 = (stepF b (stepN b n (g, 0, -9)).1).1 := rfl
    have E2 : (stepN b (n + 1) (g, 0, -9)).2.1 = (stepN b n (g, 0, -9)).2.1 + (stepF b (stepN b n (g, 0, -9)).1).2.1 := rfl
    have E3 : (stepN b (n + 1) (g, 0, -9)).2.2 = if (stepN b n (g, 0, -9)).2.2 = -9 then (stepF b (stepN b n (g, 0, -9)).1).2.2 else (stepN b n (g, 0, -9)).2.2 := rfl
    rw [E1, E2, E3, e1]
    generalize stepN b n (g, 0, -9) = S at k1 k2 vn e2
    have nn : ∀ z : Nat, z < 40 → ¬ nI z = -9 := fun z hz => by
      rw [i32_eq, nI_toInt (by omega)]
      have : (-9 : Int32).toInt = -9 := rfl
      omega
    rcases step_cases vn b with e | ⟨kk, hkk, ep, -, -, e⟩
    · rw [e]
      refine ⟨c, by omega, Int32.add_zero _, ?_⟩
      rcases e2 with ⟨h1, h2⟩ | ⟨h1, k', h2, h3, h4⟩
      · left; exact ⟨h1, by rw [h2, if_pos rfl]⟩
      · right
        refine ⟨h1, k', h2, by rw [h3, if_neg (nn k' (by omega))], ?_⟩
        show upd S.1 5 _ _ = _
        rw [updE, if_neg (by omega)]; exact h4
    · rw [e]
      have hkg : kk < pn g := by rw [← k1]; exact hkk
      refine ⟨c + 1, by omega, nI_1 c, Or.inr ⟨by omega, ?_⟩⟩
      rw [show c + 1 - 1 = c by omega]
      rcases e2 with ⟨h1, h2⟩ | ⟨h1, k', h2, h3, h4⟩
      · subst h1
        refine ⟨kk, hkg, by rw [h2, if_pos rfl], ?_⟩
        show hitF _ _ 92 = _
        have : hitF (upd S.1 5 (aroundF (S.1 5 + b))) kk 92 = aroundF (S.1 5 + b) := by
          unfold hitF
          simp (disch := omega) only [updE, if_neg, ite_true]
        rw [this, ← ep]
        exact k2 kk hkg
      · refine ⟨k', h2, by rw [h3, if_neg (nn k' (by omega))], ?_⟩
        show hitF _ _ (92 + 3 * c) = _
        rw [hitF_hi _ _ (by omega), updE, if_neg (by omega), updE, if_neg (by omega), updE, if_neg (by omega), show 92 + 3 * c - 3 = 92 + 3 * (c - 1) by omega]
        exact h4
theorem pinF_at {g : Page} (v : Val g) {k : Nat} (hk : k < pn g) : pinF g (g (12 + 2 * k)) = nI k := by
  obtain ⟨-, -, -, -, -, -, -, -, -, -, -, -, vd, -⟩ := id v
  rcases pinGo_spec g (g (12 + 2 * k)) (pn g) 0 with ⟨-, h2⟩ | ⟨j, -, hj, h3, h4, -⟩
  · exact absurd rfl (h2 k (by omega) (by omega))
  · have : j = k := vd j k (by omega) hk h4
    subst this; exact h3
theorem turnF_fall {g : Page} (v : Val g) : ∃ c, c ≤ 15 ∧ (turnF g (-9)).2.1 = nI c ∧ ((c = 0 ∧ (turnF g (-9)).2.2 = -9) ∨ (0 < c ∧ ∃ kk, kk < pn g ∧ (turnF g (-9)).2.2 = nI kk ∧ pinF (turnF g (-9)).1 ((turnF g (-9)).1 (92 + 3 * (c - 1))) = nI kk)) := by
  obtain ⟨v0, v1, -, -, -, -, v6, -⟩ := id v
  obtain ⟨-, -, w3, w4, -⟩ := way_val v0 v1 v6
  have hr := rest_val v0 v1 v6
  have v6' := Val_6 v ⟨hr.2.1, hr.2.2⟩
  have hp : pn g ≤ 40 := by have := v.pins.1; unfold pn; omega
  obtain ⟨tk1, tk2⟩ := turn_keep v (-9)
  have vt := Val_turn v (-9)
  obtain ⟨c, hc, e1, e2⟩ := stepN_fall (b := if 0 ≤ wayF g then 1 else -1) v6' (wayF g).natAbs (by omega)
  by_cases h7 : 0 < g 7
  · have et : turnF g (-9) = (upd (dragF (moveF g (-9)).1) 8 (dragF (moveF g (-9)).1 8 + 1), (moveF g (-9)).2.1, (moveF g (-9)).2.2) := by
      unfold turnF; rw [if_pos h7]
    refine ⟨c, by omega, by rw [et]; exact e1, ?_⟩
    rcases e2 with ⟨h1, h2⟩ | ⟨h1, kk, h2, h3, h4⟩
    · left; exact ⟨h1, by rw [et]; exact h2⟩
    · right
      have e6 : pn (upd g 6 (restF g)) = pn g := pn_upd (by decide)
      rw [e6] at h2
      refine ⟨h1, kk, h2, by rw [et]; exact h3, ?_⟩
      have ec : (turnF g (-9)).1 (92 + 3 * (c - 1)) = (turnF g (-9)).1 (12 + 2 * kk) := by
        rw [tk2 kk h2]
        have : (turnF g (-9)).1 (92 + 3 * (c - 1)) = (moveF g (-9)).1 (92 + 3 * (c - 1)) := by
          rw [et]
          show upd _ 8 _ _ = _
          rw [updE, if_neg (by omega), dragF_ne _ (by omega)]
        rw [this]
        refine h4.trans ?_
        rw [updE, if_neg (by omega)]
      rw [ec]
      exact pinF_at vt (by rw [tk1]; exact h2)
  · have et : turnF g (-9) = (upd g 8 (g 8 + 1), 0, -9) := by
      unfold turnF; rw [if_neg h7]
    exact ⟨0, by decide, by rw [et]; rfl, Or.inl ⟨rfl, by rw [et]⟩⟩
def flN (g : Page) (i : Nat) : Int32 := (turnF (turnN i (g, 0, -9)).1 (-9)).2.1
def fiN (g : Page) (i : Nat) : Int32 := (turnF (turnN i (g, 0, -9)).1 (-9)).2.2
theorem fl_PEq {h g : Page} (v : Val g) (e : PEq h g) : flN h = flN g ∧ fiN h = fiN g := by
  constructor
  · funext i
    have E := PEq_turnN i (s := (h, 0, -9)) (t := (g, 0, -9)) v ⟨e, rfl⟩
    have E2 := PEq_turn (-9) (Val_turnN i (s := (g, 0, -9)) v) E.1
    unfold flN; rw [E2.2]
  · funext i
    have E := PEq_turnN i (s := (h, 0, -9)) (t := (g, 0, -9)) v ⟨e, rfl⟩
    have E2 := PEq_turn (-9) (Val_turnN i (s := (g, 0, -9)) v) E.1
    unfold fiN; rw [E2.2]
theorem s_firstFall {n : Nat} (hn : n < 100000) {h : Page} {M : Mem} {Q : Int32 → Mem → Prop} (s : St M 1 h) (v : Val h) (m : Mot M 1 h (-9)) (k : ∀ M', FrM M M' 1 → Q (srch (fun i => decide (¬ flN h i = 0)) (fiN h) n 0) M') : wp_X4_firstFall (nI n) M Q := by
  generalize hR : srch (fun i => decide (¬ flN h i = 0)) (fiN h) n 0 = R at k
  refine ⟨fun w M' => ∃ i, i ≤ n ∧ w = nI i ∧ St M' 1 (turnN i (h, 0, -9)).1 ∧ Mot M' 1 (turnN i (h, 0, -9)).1 (-9) ∧ FrM M M' 1 ∧ srch (fun i => decide (¬ flN h i = 0)) (fiN h) (n - i) i = R, fun w _ => 100000 - w.toNatClampNeg, ⟨0, Nat.zero_le _, rfl, s, m, FrM.rfl', hR⟩, ?_⟩
  rintro w M' ⟨i, hi, rfl, s2, m2, f2, hs⟩
  simp only [forall_eq]
  rw [nI_leI (by omega) (by omega)]
  refine ⟨fun c => ?_, fun c => ?_⟩
  · have : i = n := by omega
    subst this
    rw [Nat.sub_self] at hs
    have hs' : -9 = R := hs
    rw [hs']; exact k _ f2
  · rw [srch_s (by omega)] at hs
    have vi := Val_turnN i (s := (h, 0, -9)) v
    obtain ⟨c, hc, e1, e2⟩ := turnF_fall vi
    have fl : flN h i = nI c := e1
    refine s_turn (by decide) s2 vi m2 (fun M3 s3 m3 f3 => ?_)
    rw [e1, i32_le, i0, nI_toInt (by omega)]
    have z0 : flN h i = 0 ↔ c = 0 := by rw [fl, i32_eq, nI_toInt (by omega), i0]; omega
    refine ⟨fun c3 => ?_, fun c3 => ?_⟩
    · have c0 : c = 0 := by omega
      rw [if_neg (by simpa using z0.mpr c0)] at hs
      rcases e2 with ⟨-, h2⟩ | ⟨h1, -⟩
      · rw [h2] at m3
        have t1 : (turnF (turnN i (h, 0, -9)).1 (-9)).1 = (turnN (i + 1) (h, 0, -9)).1 := (turnF_f _ _ _).1
        rw [t1] at s3 m3
        exact ⟨⟨i + 1, by omega, nI_1 i, s3, m3, f2.trans f3, hs⟩, mu_lt (by omega) (by decide)⟩
      · omega
    · rw [if_pos (by simpa using fun z => c3 (by have := z0.mp z; omega))] at hs
      have m4 := m3.2.2.1
      rw [m4]
      have : (turnF (turnN i (h, 0, -9)).1 (-9)).2.2 = R := hs
      rw [this]
      exact k _ (f2.trans f3)
/-- next -/
theorem c_next {M : Mem} {K : Mem → Prop} (I : LInv M) (k : ∀ M', LInv M' → K M') :
    wp_X4_next M (fun r7 M6 => wp_X5_next M6 (fun r10 M9 => (r7 = r10 → K M9) ∧ (¬ r7 = r10 → False))) := by
  obtain ⟨⟨h, s, e, v⟩, -⟩ := id I
  have vh := Val_PEq v e
  simp only [wp_X4_next]
  refine s_startTrial s vh (fun M1 s1 m1 f1 => s_firstFall (n := 2000) (by decide) s1 vh m1 (fun M2 f2 => ?_))
  have J := I.trial (f1.trans f2)
  have g0 : M2 120 = M 120 := (f1.trans f2) 120 (by omega) (by omega)
  rw [(fl_PEq v e).1, (fl_PEq v e).2]
  generalize hR : srch (fun i => decide (¬ flN (M 120) i = 0)) (fiN (M 120)) 2000 0 = R
  simp only [wp_X5_next, forall_eq]
  have g1 : mup M2 117 0 0 120 = M 120 := by rw [mup_ne (by decide), g0]
  have fin : ∀ t, (R = R → K (va_up (mup M2 117 0 0) 121 t)) ∧ (¬ R = R → False) := fun t => ⟨fun _ => k _ J.ref.page, fun z => absurd rfl z⟩
  refine s5_trial (by rw [g1]; exact v) (fun t0 e0 v0 => ?_)
  rw [g1] at e0
  have q := fl_PEq v e0
  refine ⟨fun w M' => ∃ n, n ≤ 2000 ∧ w = nI n ∧ M' = va_up (mup M2 117 0 0) 121 (turnN n (t0, 0, -9)).1 ∧ srch (fun i => decide (¬ flN (M 120) i = 0)) (fiN (M 120)) (2000 - n) n = R, fun w _ => 3000 - w.toNatClampNeg, ⟨0, by decide, rfl, rfl, hR⟩, ?_⟩
  rintro w M' ⟨n, hn1, rfl, rfl, hs⟩
  rw [show (2000 : Int32) = nI 2000 from rfl, nI_leI (by omega) (by omega)]
  refine ⟨fun c => ?_, fun c => ?_⟩
  · have : n = 2000 := by omega
    subst this
    have hs' : -9 = R := hs
    rw [hs']; exact fin _
  · rw [srch_s (by omega)] at hs
    have vi := Val_turnN n (s := (t0, 0, -9)) v0
    obtain ⟨c', hc, e1, e2⟩ := turnF_fall vi
    have fl : flN (M 120) n = nI c' := by rw [← q.1]; exact e1
    have z0 : flN (M 120) n = 0 ↔ c' = 0 := by rw [fl, i32_eq, nI_toInt (by omega), i0]; omega
    refine s5_turnOn vu_self vi (J.ref.page).2.2.2.2 ?_
    rw [vu_vu, e1, vu_self, i32_le, i0, nI_toInt (by omega)]
    refine ⟨fun c3 => ?_, fun c3 => ?_⟩
    · have c0 : c' = 0 := by omega
      rw [if_neg (by simpa using z0.mpr c0)] at hs
      refine ⟨⟨n + 1, by omega, nI_1 n, ?_, hs⟩, mu_lt (by omega) (by decide)⟩
      rw [(turnF_f _ (-9) (turnN n (t0, 0, -9)).2.2).1]
      rfl
    · rw [if_pos (by simpa using fun z => c3 (by have := z0.mp z; omega))] at hs
      rcases e2 with ⟨h1, -⟩ | ⟨h1, kk, h2, h3, h4⟩
      · omega
      · have ei : (92 : Int32) + 3 * (nI c' - 1) = nI (92 + 3 * (c' - 1)) := by
          have : nI c' - 1 = nI (c' - 1) := by
            rw [show (1 : Int32) = nI 1 from rfl, Int32.sub_eq_iff_eq_add, nI_addn, Nat.sub_add_cancel (by omega)]
          rw [this, nI_lit3]; exact nI_add 92 _
        rw [ei, nI_clamp (by omega)]
        refine ⟨vp212 (by omega), s5_pinAt vu_self (Val_turn vi (-9)).pins.1 ?_⟩
        rw [h4]
        have : nI kk = R := by
          rw [← hs, ← q.2, ← h3]; rfl
        rw [this]
        exact fin _
def noF (g : Page) (i : Nat) : Bool := decide (flN g i = 0)
theorem ff_none {g : Page} (v : Val g) : ∀ (f n : Nat), srch (fun i => decide (¬ flN g i = 0)) (fiN g) f n = -9 ↔ ∀ i, n ≤ i → i < n + f → noF g i = true
  | 0, n => ⟨fun _ i h1 h2 => absurd h1 (by omega), fun _ => rfl⟩
  | f + 1, n => by
    unfold srch
    have ih := ff_none v f (n + 1)
    have hp : pn (turnN n (g, 0, -9)).1 ≤ 40 := by
      have := (Val_turnN n (s := (g, 0, -9)) v).pins.1
      unfold pn; omega
    by_cases c : flN g n = 0
    · rw [if_neg (by simpa using c), ih]
      refine ⟨fun h i h1 h2 => ?_, fun h i h1 h2 => h i (by omega) (by omega)⟩
      by_cases d : i = n
      · subst d; exact decide_eq_true c
      · exact h i (by omega) (by omega)
    · rw [if_pos (by simpa using c)]
      refine ⟨fun h => ?_, fun h => absurd (of_decide_eq_true (h n (by omega) (by omega))) c⟩
      obtain ⟨c', hc, e1, e2⟩ := turnF_fall (Val_turnN n (s := (g, 0, -9)) v)
      rcases e2 with ⟨h1, -⟩ | ⟨-, kk, h2, h3, -⟩
      · exact absurd (by subst h1; exact e1) c
      · have : fiN g n = nI kk := h3
        rw [this] at h
        rw [i32_eq, nI_toInt (by omega)] at h
        have : (-9 : Int32).toInt = -9 := rfl
        omega
theorem s5_free {n : Nat} (hn : n < 100000) {g : Page} {M0 : Mem} (v : Val g) (ro : RowOK M0) {A B : Mem → Prop} (kB : allB (noF g) n = true → ∀ t, B (va_up M0 121 t)) (kA : ¬ allB (noF g) n = true → ∀ t, A (va_up M0 121 t)) :
    ∃ (I16 : Int32 → Int32 → Mem → Prop) (mu16 : Int32 → Int32 → Mem → Nat), I16 0 1 (va_up M0 121 g) ∧ ∀ (w17 : Int32) (w18 : Int32) (M19 : Mem), I16 w17 w18 M19 →
                    ((nI n ≤ w17 → ((w18 = 0 → A M19) ∧ (¬ w18 = 0 → B M19))) ∧ (¬ nI n ≤ w17 →
                      ((w18 = 0 → ((w18 = 0 → A M19) ∧ (¬ w18 = 0 → B M19))) ∧ (¬ w18 = 0 →
                        wp_X5_turnOn 121 212 M19 (fun r27 M26 =>
                          ((¬ r27 = 0 → (I16 (w17 + 1) (0) M26 ∧ mu16 (w17 + 1) (0) M26 < mu16 w17 w18 M19)
                          ) ∧ (r27 = 0 → (I16 (w17 + 1) (1) M26 ∧ mu16 (w17 + 1) (1) M26 < mu16 w17 w18 M19))))))) ) := by
  refine ⟨fun w z M' => ∃ i, i ≤ n ∧ w = nI i ∧ ((z = 1 ∧ M' = va_up M0 121 (turnN i (g, 0, -9)).1 ∧ ∀ j, j < i → noF g j = true) ∨ (z = 0 ∧ (∃ t, M' = va_up M0 121 t) ∧ ¬ allB (noF g) n = true)), fun w _ _ => 100000 - w.toNatClampNeg, ⟨0, Nat.zero_le _, rfl, Or.inl ⟨rfl, rfl, fun j hj => absurd hj (by omega)⟩⟩, ?_⟩
  rintro w z M' ⟨i, hi, rfl, hz⟩
  rw [nI_leI (by omega) (by omega)]
  rcases hz with ⟨rfl, rfl, ha⟩ | ⟨rfl, ⟨t, rfl⟩, hb⟩
  · refine ⟨fun c => ⟨fun z => absurd z (by decide), fun _ => ?_⟩, fun c => ⟨fun z => absurd z (by decide), fun _ => ?_⟩⟩
    · have : i = n := by omega
      subst this
      exact kB (allB_iff.mpr ha) _
    · refine s5_turnOn vu_self (Val_turnN i (s := (g, 0, -9)) v) (RowOK_vu ro (by decide)) ?_
      have q : (turnF (turnN i (g, 0, -9)).1 (-9)).2.1 = flN g i := rfl
      rw [vu_vu, q, ← (turnF_f _ (turnN i (g, 0, -9)).2.2 (-9)).1]
      refine ⟨fun c3 => ⟨⟨i + 1, by omega, nI_1 i, Or.inr ⟨rfl, ⟨_, rfl⟩, fun z => ?_⟩⟩, mu_lt (by omega) (by decide)⟩, fun c3 => ⟨⟨i + 1, by omega, nI_1 i, Or.inl ⟨rfl, rfl, fun j hj => ?_⟩⟩, mu_lt (by omega) (by decide)⟩⟩
      · exact c3 (of_decide_eq_true (allB_iff.mp z i (by omega)))
      · by_cases d : j = i
        · subst d; exact decide_eq_true c3
        · exact ha j (by omega)
  · exact ⟨fun _ => ⟨fun _ => kA hb _, fun z => absurd rfl z⟩, fun _ => ⟨fun _ => ⟨fun _ => kA hb _, fun z => absurd rfl z⟩, fun z => absurd rfl z⟩⟩
/-- freeStart -/
theorem c_freeStart {x : Int32} {M : Mem} {V : Prop} {K : Mem → Prop} (I : LInv M) (hv : V) (k : ∀ M', LInv M' → K M') :
    wp_L_freeStart x M (fun r7 M6 => V ∧ wp_X5_freeStart x M6 (Tail r7 K)) := by
  obtain ⟨⟨h, s, e, v⟩, -⟩ := id I
  have vh := Val_PEq v e
  have bad : ¬ (1 ≤ x.toInt ∧ x.toInt ≤ 200) → V ∧ wp_X5_freeStart x M (Tail 1 K) := fun c => by
    refine ⟨hv, ?_⟩
    simp only [wp_X5_freeStart, forall_eq]
    refine s5_in32 1 200 rfl rfl (fun a b => absurd ⟨a, b⟩ c) (fun _ => ⟨fun _ => s5_ref1 ⟨fun z => absurd z (by decide), fun _ => tail_ref I (by decide) k⟩, fun z => absurd rfl z⟩)
  simp only [wp_L_freeStart, wp_X4_freeStart, wp_X4_checkTurnsOfSearch, forall_eq]
  rw [i32_lt, i32_le, i1, d200]
  refine ⟨fun c => ⟨fun _ => bad (by omega), trivial⟩, fun c => ⟨fun c2 => ?_, fun c2 => ⟨fun _ => bad (by omega), trivial⟩⟩⟩
  have hx : x = nI x.toInt.toNat := nI_of_toInt (by omega)
  have hx2 : 1 ≤ x.toInt.toNat ∧ x.toInt.toNat ≤ 200 := by omega
  generalize x.toInt.toNat = n at hx hx2
  subst hx
  generalize hR : srch (fun j => allB (noF (upd (M 120) 5 (nI (60 * j)))) n) (fun j => nI (60 * j)) 180 0 = R
  have vg : ∀ j, j < 180 → 0 ≤ (nI (60 * j)).toInt ∧ (nI (60 * j)).toInt < 10800 := fun j hj => by rw [nI_toInt (by omega)]; omega
  have qq : ∀ j, j < 180 → ∀ t, PEq t (M 120) → noF (upd t 5 (nI (60 * j))) = noF (upd (M 120) 5 (nI (60 * j))) := fun j hj t ht => by
    funext i
    unfold noF
    rw [(fl_PEq (Val_5 v (vg j hj)) (PEq_upd ht (by decide))).1]
  have side : ∀ M2, FrM M M2 1 → V ∧ wp_X5_freeStart (nI n) (mup M2 126 0 R) (Tail 0 K) := by
    intro M2 f2
    have J := I.trial f2
    have g0 : M2 120 = M 120 := f2 120 (by omega) (by omega)
    refine ⟨hv, ?_⟩
    simp only [wp_X5_freeStart, forall_eq]
    refine s5_in32 1 200 rfl rfl (fun _ _ => ⟨fun z => absurd z (by decide), fun _ => s5_ref0 ⟨fun _ => ?_, fun z => absurd rfl z⟩⟩) (fun z => absurd ⟨by omega, by omega⟩ z)
    refine ⟨fun w M' => ∃ j, j ≤ 180 ∧ w = nI (60 * j) ∧ (∃ t, M' = va_up (mup (mup M2 126 0 R) 117 0 0) 121 t) ∧ srch (fun j => allB (noF (upd (M 120) 5 (nI (60 * j)))) n) (fun j => nI (60 * j)) (180 - j) j = R, fun w _ => 20000 - w.toNatClampNeg, ⟨0, by decide, rfl, ⟨_, vu_id.symm⟩, hR⟩, ?_⟩
    rintro w M' ⟨j, hj, rfl, ⟨t, rfl⟩, hs⟩
    rw [show (10800 : Int32) = nI 10800 from rfl, nI_leI (by omega) (by omega)]
    refine ⟨fun c => ?_, fun c => ?_⟩
    · have : j = 180 := by omega
      subst this
      have hs' : -9 = R := hs
      rw [hs']; exact tail_try J k
    · rw [srch_s (by omega)] at hs
      have g120 : va_up (mup (mup M2 126 0 R) 117 0 0) 121 t 120 = M 120 := by rw [vu_ne (by decide), mk120, g0]
      refine s5_trial (by rw [g120]; exact v) (fun t0 e0 v0 => ?_)
      rw [g120] at e0
      rw [vu_vu, mup_vu2]
      have v1 := Val_5 v0 (vg j (by omega))
      have q := qq j (by omega) t0 e0
      refine s5_free (by omega) v1 (J.out.ref).2.2.2.2 (fun z t => ?_) (fun z t => ⟨⟨j + 1, by omega, ?_, ⟨t, rfl⟩, ?_⟩, ?_⟩)
      · rw [q] at z
        rw [if_pos z] at hs
        rw [hs]; exact tail_try J k
      · rw [show (60 : Int32) = nI 60 from rfl, nI_addn]; congr 1
      · rw [q] at z
        rw [if_neg z] at hs
        exact hs
      · rw [show (60 : Int32) = nI 60 from rfl, nI_addn]; exact mu_lt2 (by decide) (by omega) (by decide) (by decide)
  refine ⟨fun w M' => ∃ j, j ≤ 180 ∧ w = nI (60 * j) ∧ FrM M M' 1 ∧ srch (fun j => allB (noF (upd (M 120) 5 (nI (60 * j)))) n) (fun j => nI (60 * j)) (180 - j) j = R, fun w _ => 20000 - w.toNatClampNeg, ⟨0, by decide, rfl, FrM.rfl', hR⟩, ?_⟩
  rintro w M' ⟨j, hj, rfl, f2, hs⟩
  rw [show (10800 : Int32) = nI 10800 from rfl, nI_leI (by omega) (by omega)]
  refine ⟨fun c => ?_, fun c => ?_⟩
  · have : j = 180 := by omega
    subst this
    have hs' : -9 = R := hs
    rw [hs']; exact side _ f2
  · rw [srch_s (by omega)] at hs
    have s0 : St M' 0 h := s.frame' (fun r hr => f2 _ (by omega) (by omega))
    have vj := Val_5 vh (vg j (by omega))
    refine s_copyFrom s0 (by decide) (fun M1 s1 f1 => ?_)
    have s1' := s1.f (k := 1) (nI (60 * j)) (by decide) (by decide)
    refine s_beginM (by decide) s1' vj (fun M3 s3 m3 f3 => s_firstFall (by omega) s3 vj m3 (fun M4 f4 => ?_))
    have fr := (((f2.trans f1.M).trans FrS_mup0.M).trans f3).trans f4
    have key := ff_none vj n 0
    have key2 : allB (noF (upd (M 120) 5 (nI (60 * j)))) n = true ↔ ∀ i, 0 ≤ i → i < 0 + n → noF (upd h 5 (nI (60 * j))) i = true := by
      rw [allB_iff, qq j (by omega) h e]
      exact ⟨fun a i _ hi => a i (by omega), fun a i hi => a i (by omega) (by omega)⟩
    have key3 := key.trans key2.symm
    refine ⟨fun z => ⟨⟨j + 1, by omega, ?_, fr, ?_⟩, ?_⟩, fun z => ?_⟩
    · rw [show (60 : Int32) = nI 60 from rfl, nI_addn]; congr 1
    · rw [if_neg (fun y => z (key3.mpr y))] at hs
      exact hs
    · rw [show (60 : Int32) = nI 60 from rfl, nI_addn]; exact mu_lt2 (by decide) (by omega) (by decide) (by decide)
    · rw [if_pos (key3.mp z)] at hs
      rw [hs]; exact side _ fr

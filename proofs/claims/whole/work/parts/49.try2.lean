theorem d9999 : (9999 : Int32).toInt = 9999 := rfl
theorem srch_s {P : Nat → Bool} {val : Nat → Int32} {N n : Nat} (h : n < N) : srch P val (N - n) n = if P n = true then val n else srch P val (N - (n + 1)) (n + 1) := by
  obtain ⟨m, hm⟩ : ∃ m, N - n = m + 1 := ⟨N - n - 1, by omega⟩
  rw [hm, show N - (n + 1) = m by omega]
  rfl
/-- lowAfter -/
theorem c_lowAfter {x : Int32} {M : Mem} {V : Prop} {K : Mem → Prop} (I : LInv M) (hv : V) (k : ∀ M', LInv M' → K M') :
    wp_L_lowAfter x M (fun r7 M6 => V ∧ wp_X5_lowAfter x M6 (Tail r7 K)) := by
  obtain ⟨⟨h, s, e, v⟩, -⟩ := id I
  have vh := Val_PEq v e
  have bad : ¬ (0 ≤ x.toInt ∧ x.toInt ≤ 9999) → V ∧ wp_X5_lowAfter x M (Tail 1 K) := fun c => by
    refine ⟨hv, ?_⟩
    simp only [wp_X5_lowAfter, forall_eq]
    refine s5_in32 0 9999 rfl rfl (fun a b => absurd ⟨a, b⟩ c) (fun _ => ⟨fun _ => s5_ref1 ⟨fun z => absurd z (by decide), fun _ => tail_ref I (by decide) k⟩, fun z => absurd rfl z⟩)
  simp only [wp_L_lowAfter, wp_X4_lowAfter, forall_eq]
  rw [s_lt0, i32_le, d9999]
  refine ⟨fun c => ⟨fun _ => bad (by omega), trivial⟩, fun c => ⟨fun c2 => ?_, fun c2 => ⟨fun _ => bad (by omega), trivial⟩⟩⟩
  have keep : ∀ n t, PE2 t (turnN n (M 120, 0, -9)) → t.1 7 = (turnN n (M 120, 0, -9)).1 7 := fun n t ht => ht.1.lo (by decide)
  generalize hR : srch (fun n => decide (¬ x < (turnN n (M 120, 0, -9)).1 7)) nI 3001 0 = R
  have side : ∀ M2, FrM M M2 1 → V ∧ wp_X5_lowAfter x (mup M2 126 0 R) (Tail 0 K) := by
    intro M2 f2
    have J := I.trial f2
    have g0 : M2 120 = M 120 := f2 120 (by omega) (by omega)
    refine ⟨hv, ?_⟩
    simp only [wp_X5_lowAfter, forall_eq]
    refine s5_in32 0 9999 rfl rfl (fun _ _ => ⟨fun z => absurd z (by decide), fun _ => s5_ref0 ⟨fun _ => ?_, fun z => absurd rfl z⟩⟩) (fun z => absurd ⟨by omega, by omega⟩ z)
    refine s5_trial (by rw [mk120, g0]; exact v) (fun t0 e0 v0 => ?_)
    rw [mk120, g0] at e0
    refine ⟨fun w M' => ∃ n, n ≤ 3001 ∧ w = nI n ∧ M' = va_up (mup (mup M2 126 0 R) 117 0 0) 121 (turnN n (t0, 0, -9)).1 ∧ srch (fun n => decide (¬ x < (turnN n (M 120, 0, -9)).1 7)) nI (3001 - n) n = R, fun w _ => 4000 - w.toNatClampNeg, ⟨0, by decide, rfl, rfl, hR⟩, ?_⟩
    rintro w M' ⟨n, hn1, rfl, rfl, hs⟩
    have E := PEq_turnN n (s := (t0, 0, -9)) (t := (M 120, 0, -9)) v ⟨e0, rfl⟩
    rw [show (3000 : Int32) = nI 3000 from rfl, nI_ltI (by omega) (by omega), vu_self, keep n _ E]
    refine ⟨fun c => ?_, fun c => ?_⟩
    · have : n = 3001 := by omega
      subst this
      have hs' : -9 = R := hs
      rw [hs']; exact tail_try J k
    · rw [srch_s (by omega)] at hs
      refine ⟨fun c3 => ?_, fun c3 => ?_⟩
      · refine s5_turnOn vu_self (Val_turnN n (s := (t0, 0, -9)) v0) (J.out.ref.page).2.2.2.2 ?_
        rw [vu_vu, ← (turnF_f _ (turnN n (t0, 0, -9)).2.2 (-9)).1]
        rw [if_neg (by simpa using c3)] at hs
        exact ⟨⟨n + 1, by omega, nI_1 n, rfl, hs⟩, mu_lt (by omega) (by decide)⟩
      · rw [if_pos (by simpa using c3)] at hs
        rw [hs]; exact tail_try J k
  refine s_startTrial s vh (fun M1 s1 m1 f1 => ?_)
  refine ⟨fun w M' => ∃ n, n ≤ 3001 ∧ w = nI n ∧ St M' 1 (turnN n (h, 0, -9)).1 ∧ Mot M' 1 (turnN n (h, 0, -9)).1 (turnN n (h, 0, -9)).2.2 ∧ FrM M M' 1 ∧ srch (fun n => decide (¬ x < (turnN n (M 120, 0, -9)).1 7)) nI (3001 - n) n = R, fun w _ => 4000 - w.toNatClampNeg, ⟨0, by decide, rfl, s1, m1, f1, hR⟩, ?_⟩
  rintro w M' ⟨n, hn1, rfl, s2, m2, f2, hs⟩
  have E := PEq_turnN n (s := (h, 0, -9)) (t := (M 120, 0, -9)) v ⟨e, rfl⟩
  rw [show (3000 : Int32) = nI 3000 from rfl, nI_ltI (by omega) (by omega), s2.height, keep n _ E]
  refine ⟨fun c => ?_, fun c => ?_⟩
  · have : n = 3001 := by omega
    subst this
    have hs' : -9 = R := hs
    rw [hs']; exact side _ f2
  · rw [srch_s (by omega)] at hs
    refine ⟨fun c3 => ?_, fun c3 => ?_⟩
    · refine s_turn (by decide) s2 (Val_turnN n (s := (h, 0, -9)) vh) m2 (fun M3 s3 m3 f3 => ?_)
      rw [if_neg (by simpa using c3)] at hs
      exact ⟨⟨n + 1, by omega, nI_1 n, s3, m3, f2.trans f3, hs⟩, mu_lt (by omega) (by decide)⟩
    · rw [if_pos (by simpa using c3)] at hs
      rw [hs]; exact side _ f2
def allB (p : Nat → Bool) : Nat → Bool
  | 0 => true
  | n + 1 => allB p n && p n
theorem allB_iff {p : Nat → Bool} : ∀ {n : Nat}, allB p n = true ↔ ∀ i, i < n → p i = true
  | 0 => ⟨fun _ i h => absurd h (by omega), fun _ => rfl⟩
  | n + 1 => by
    show (allB p n && p n) = true ↔ _
    rw [Bool.and_eq_true, allB_iff]
    refine ⟨fun h i hi => ?_, fun h => ⟨fun i hi => h i (by omega), h n (by omega)⟩⟩
    by_cases c : i = n
    · subst c; exact h.2
    · exact h.1 i (by omega)
def inR (g : Page) (i : Nat) : Bool := decide ((turnN (i + 1) (g, 0, -9)).1 3 ≤ (turnN (i + 1) (g, 0, -9)).1 7)
theorem inR_PEq {h g : Page} (v : Val g) (e : PEq h g) : inR h = inR g := by
  funext i
  have E := PEq_turnN (i + 1) (s := (h, 0, -9)) (t := (g, 0, -9)) v ⟨e, rfl⟩
  unfold inR
  rw [E.1.lo (by decide), E.1.lo (by decide)]
theorem s_stays {n : Nat} (hn : n < 100000) {h : Page} {M : Mem} {Q : Int32 → Mem → Prop} (s : St M 1 h) (v : Val h) (m : Mot M 1 h (-9)) (k : ∀ M', FrM M M' 1 → Q (if allB (inR h) n = true then 1 else 0) M') : wp_X4_staysInReach (nI n) M Q := by
  refine ⟨fun w M' => ∃ i, i ≤ n ∧ w = nI i ∧ St M' 1 (turnN i (h, 0, -9)).1 ∧ Mot M' 1 (turnN i (h, 0, -9)).1 (turnN i (h, 0, -9)).2.2 ∧ FrM M M' 1 ∧ ∀ j, j < i → inR h j = true, fun w _ => 100000 - w.toNatClampNeg, ⟨0, Nat.zero_le _, rfl, s, m, FrM.rfl', fun j hj => absurd hj (by omega)⟩, ?_⟩
  rintro w M' ⟨i, hi, rfl, s2, m2, f2, ha⟩
  simp only [forall_eq]
  rw [nI_leI (by omega) (by omega)]
  refine ⟨fun c => ?_, fun c => ?_⟩
  · have : i = n := by omega
    subst this
    have := k M' f2
    rw [if_pos (allB_iff.mpr ha)] at this
    exact this
  · refine s_turn (by decide) s2 (Val_turnN i (s := (h, 0, -9)) v) m2 (fun M3 s3 m3 f3 => ?_)
    rw [s3.height, s3.set (by decide)]
    refine ⟨fun c3 => ⟨⟨i + 1, by omega, nI_1 i, s3, m3, f2.trans f3, fun j hj => ?_⟩, mu_lt (by omega) (by decide)⟩, fun c3 => ?_⟩
    · by_cases d : j = i
      · subst d; exact decide_eq_true c3
      · exact ha j (by omega)
    · have := k M3 (f2.trans f3)
      rw [if_neg] at this
      · exact this
      · intro z
        have := of_decide_eq_true (allB_iff.mp z i (by omega))
        exact c3 this
theorem s5_stays {n : Nat} (hn : n < 100000) {g : Page} {M0 : Mem} (v : Val g) (ro : RowOK M0) {A B : Mem → Prop} (kB : allB (inR g) n = true → ∀ t, B (va_up M0 121 t)) (kA : ¬ allB (inR g) n = true → ∀ t, A (va_up M0 121 t)) :
    ∃ (I16 : Int32 → Int32 → Mem → Prop) (mu16 : Int32 → Int32 → Mem → Nat), I16 0 1 (va_up M0 121 g) ∧ ∀ (w17 : Int32) (w18 : Int32) (M19 : Mem), I16 w17 w18 M19 →
                    ((nI n ≤ w17 → ((w18 = 0 → A M19) ∧ (¬ w18 = 0 → B M19))) ∧ (¬ nI n ≤ w17 →
                      ((w18 = 0 → ((w18 = 0 → A M19) ∧ (¬ w18 = 0 → B M19))) ∧ (¬ w18 = 0 →
                        wp_X5_turnOn 121 212 M19 (fun r27 M26 =>
                          (((M26 (121) 7) < (M26 (121) 3) → (I16 (w17 + 1) (0) M26 ∧ mu16 (w17 + 1) (0) M26 < mu16 w17 w18 M19)
                          ) ∧ (¬ (M26 (121) 7) < (M26 (121) 3) → (I16 (w17 + 1) (1) M26 ∧ mu16 (w17 + 1) (1) M26 < mu16 w17 w18 M19))))))) ) := by
  refine ⟨fun w z M' => ∃ i, i ≤ n ∧ w = nI i ∧ ((z = 1 ∧ M' = va_up M0 121 (turnN i (g, 0, -9)).1 ∧ ∀ j, j < i → inR g j = true) ∨ (z = 0 ∧ (∃ t, M' = va_up M0 121 t) ∧ ¬ allB (inR g) n = true)), fun w _ _ => 100000 - w.toNatClampNeg, ⟨0, Nat.zero_le _, rfl, Or.inl ⟨rfl, rfl, fun j hj => absurd hj (by omega)⟩⟩, ?_⟩
  rintro w z M' ⟨i, hi, rfl, hz⟩
  rw [nI_leI (by omega) (by omega)]
  rcases hz with ⟨rfl, rfl, ha⟩ | ⟨rfl, ⟨t, rfl⟩, hb⟩
  · refine ⟨fun c => ⟨fun z => absurd z (by decide), fun _ => ?_⟩, fun c => ⟨fun z => absurd z (by decide), fun _ => ?_⟩⟩
    · have : i = n := by omega
      subst this
      exact kB (allB_iff.mpr ha) _
    · refine s5_turnOn vu_self (Val_turnN i (s := (g, 0, -9)) v) (RowOK_vu ro (by decide)) ?_
      rw [vu_vu, vu_self, ← (turnF_f _ (turnN i (g, 0, -9)).2.2 (-9)).1]
      refine ⟨fun c3 => ⟨⟨i + 1, by omega, nI_1 i, Or.inr ⟨rfl, ⟨_, rfl⟩, fun z => ?_⟩⟩, mu_lt (by omega) (by decide)⟩, fun c3 => ⟨⟨i + 1, by omega, nI_1 i, Or.inl ⟨rfl, rfl, fun j hj => ?_⟩⟩, mu_lt (by omega) (by decide)⟩⟩
      · have := of_decide_eq_true (allB_iff.mp z i (by omega))
        rw [i32_le] at this
        rw [i32_lt] at c3
        have q : (turnF (turnN i (g, 0, -9)).1 (turnN i (g, 0, -9)).2.2).1 = (turnN (i + 1) (g, 0, -9)).1 := rfl
        rw [q] at c3
        omega
      · by_cases d : j = i
        · subst d
          refine decide_eq_true ?_
          rw [i32_le]
          rw [i32_lt] at c3
          have q : (turnF (turnN j (g, 0, -9)).1 (turnN j (g, 0, -9)).2.2).1 = (turnN (j + 1) (g, 0, -9)).1 := rfl
          rw [q] at c3
          omega
        · exact ha j (by omega)
  · exact ⟨fun _ => ⟨fun _ => kA hb _, fun z => absurd rfl z⟩, fun _ => ⟨fun _ => ⟨fun _ => kA hb _, fun z => absurd rfl z⟩, fun z => absurd rfl z⟩⟩
theorem d200 : (200 : Int32).toInt = 200 := rfl
theorem mu_lt2 {n c N : Nat} (hc : 0 < c) (h : n < N) (hN : N ≤ 1000000) (hc2 : c ≤ 1000) : N - (nI (n + c)).toNatClampNeg < N - (nI n).toNatClampNeg := by
  rw [nI_clamp (by omega), nI_clamp (by omega)]; omega
/-- pushFor -/
theorem c_pushFor {x : Int32} {M : Mem} {V : Prop} {K : Mem → Prop} (I : LInv M) (hv : V) (k : ∀ M', LInv M' → K M') :
    wp_L_pushFor x M (fun r7 M6 => V ∧ wp_X5_pushFor x M6 (Tail r7 K)) := by
  obtain ⟨⟨h, s, e, v⟩, -⟩ := id I
  have vh := Val_PEq v e
  have bad : ¬ (1 ≤ x.toInt ∧ x.toInt ≤ 200) → V ∧ wp_X5_pushFor x M (Tail 1 K) := fun c => by
    refine ⟨hv, ?_⟩
    simp only [wp_X5_pushFor, forall_eq]
    refine s5_in32 1 200 rfl rfl (fun a b => absurd ⟨a, b⟩ c) (fun _ => ⟨fun _ => s5_ref1 ⟨fun z => absurd z (by decide), fun _ => tail_ref I (by decide) k⟩, fun z => absurd rfl z⟩)
  simp only [wp_L_pushFor, wp_X4_pushFor, wp_X4_checkTurnsOfSearch, forall_eq]
  rw [i32_lt, i32_le, i1, d200]
  refine ⟨fun c => ⟨fun _ => bad (by omega), trivial⟩, fun c => ⟨fun c2 => ?_, fun c2 => ⟨fun _ => bad (by omega), trivial⟩⟩⟩
  have hx : x = nI x.toInt.toNat := nI_of_toInt (by omega)
  have hx2 : 1 ≤ x.toInt.toNat ∧ x.toInt.toNat ≤ 200 := by omega
  generalize x.toInt.toNat = n at hx hx2
  subst hx
  generalize hR : srch (fun j => allB (inR (gainF (M 120) (nI (100 * j)))) n) (fun j => nI (100 * j)) 100 0 = R
  have vg : ∀ j, j < 100 → 0 ≤ (nI (100 * j)).toInt ∧ (nI (100 * j)).toInt ≤ 9999 := fun j hj => by rw [nI_toInt (by omega)]; omega
  have side : ∀ M2, FrM M M2 1 → V ∧ wp_X5_pushFor (nI n) (mup M2 126 0 R) (Tail 0 K) := by
    intro M2 f2
    have J := I.trial f2
    have g0 : M2 120 = M 120 := f2 120 (by omega) (by omega)
    refine ⟨hv, ?_⟩
    simp only [wp_X5_pushFor, forall_eq]
    refine s5_in32 1 200 rfl rfl (fun _ _ => ⟨fun z => absurd z (by decide), fun _ => s5_ref0 ⟨fun _ => ?_, fun z => absurd rfl z⟩⟩) (fun z => absurd ⟨by omega, by omega⟩ z)
    refine ⟨fun w M' => ∃ j, j ≤ 100 ∧ w = nI (100 * j) ∧ (∃ t, M' = va_up (mup (mup M2 126 0 R) 117 0 0) 121 t) ∧ srch (fun j => allB (inR (gainF (M 120) (nI (100 * j)))) n) (fun j => nI (100 * j)) (100 - j) j = R, fun w _ => 20000 - w.toNatClampNeg, ⟨0, by decide, rfl, ⟨_, vu_id.symm⟩, hR⟩, ?_⟩
    rintro w M' ⟨j, hj, rfl, ⟨t, rfl⟩, hs⟩
    rw [show (10000 : Int32) = nI 10000 from rfl, nI_leI (by omega) (by omega)]
    refine ⟨fun c => ?_, fun c => ?_⟩
    · have : j = 100 := by omega
      subst this
      have hs' : -9 = R := hs
      rw [hs']; exact tail_try J k
    · rw [srch_s (by omega)] at hs
      have g120 : va_up (mup (mup M2 126 0 R) 117 0 0) 121 t 120 = M 120 := by rw [vu_ne (by decide), mk120, g0]
      refine s5_trial (by rw [g120]; exact v) (fun t0 e0 v0 => ?_)
      rw [g120] at e0
      rw [vu_vu]
      refine s5_pushOn vu_self ?_
      rw [vu_vu]
      have v1 := Val_gain v0 (vg j (by omega))
      have q := inR_PEq (Val_gain v (vg j (by omega))) (PEq_gain (x := nI (100 * j)) e0)
      refine s5_stays (by omega) v1 (J.out.ref).2.2.2.2 (fun z t => ?_) (fun z t => ⟨⟨j + 1, by omega, ?_, ⟨t, rfl⟩, ?_⟩, ?_⟩)
      · rw [q] at z
        rw [if_pos z] at hs
        rw [hs]; exact tail_try J k
      · rw [show (100 : Int32) = nI 100 from rfl, nI_addn]; congr 1
      · rw [q] at z
        rw [if_neg z] at hs
        exact hs
      · rw [show (100 : Int32) = nI 100 from rfl, nI_addn]; exact mu_lt2 (by decide) (by omega) (by decide) (by decide)
  refine ⟨fun w M' => ∃ j, j ≤ 100 ∧ w = nI (100 * j) ∧ FrM M M' 1 ∧ srch (fun j => allB (inR (gainF (M 120) (nI (100 * j)))) n) (fun j => nI (100 * j)) (100 - j) j = R, fun w _ => 20000 - w.toNatClampNeg, ⟨0, by decide, rfl, FrM.rfl', hR⟩, ?_⟩
  rintro w M' ⟨j, hj, rfl, f2, hs⟩
  rw [show (9900 : Int32) = nI 9900 from rfl, nI_ltI (by omega) (by omega)]
  refine ⟨fun c => ?_, fun c => ?_⟩
  · have : j = 100 := by omega
    subst this
    have hs' : -9 = R := hs
    rw [hs']; exact side _ f2
  · rw [srch_s (by omega)] at hs
    have s0 : St M' 0 h := s.frame' (fun r hr => f2 _ (by omega) (by omega))
    refine s_startTrial s0 vh (fun M1 s1 m1 f1 => s_gain s1 (fun M3 s3 f3 => ?_))
    have m3 : Mot M3 1 (gainF h (nI (100 * j))) (-9) := m1.cong (f3.mo (by decide)) (fun i a b c => by unfold gainF; rw [updE, if_neg b])
    have q := inR_PEq (Val_gain v (vg j (by omega))) (PEq_gain (x := nI (100 * j)) e)
    refine s_stays (by omega) s3 (Val_gain vh (vg j (by omega))) m3 (fun M4 f4 => ?_)
    have fr := ((f2.trans f1).trans f3.M).trans f4
    rw [q]
    refine ⟨fun z => ⟨⟨j + 1, by omega, ?_, fr, ?_⟩, ?_⟩, fun z => ?_⟩
    · rw [show (100 : Int32) = nI 100 from rfl, nI_addn]; congr 1
    · rw [if_neg] at hs
      · exact hs
      · intro y; rw [if_pos y] at z; exact absurd z (by decide)
    · rw [show (100 : Int32) = nI 100 from rfl, nI_addn]; exact mu_lt2 (by decide) (by omega) (by decide) (by decide)
    · rw [if_pos] at hs
      · rw [hs]; exact side _ fr
      · by_cases y : allB (inR (gainF (M 120) (nI (100 * j)))) n = true
        · exact y
        · rw [if_neg y] at z; exact absurd rfl z

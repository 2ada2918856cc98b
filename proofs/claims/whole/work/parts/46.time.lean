theorem isR_of {g : Page} {a : Nat} (h : a < rn g) (h2 : rn g ≤ 20) : isR g (nI a) := ⟨by rw [nI_toInt (by omega)]; omega, by rw [nI_toInt (by omega)]; omega⟩
theorem pair_ref1 {x y : Int32} {M : Mem} {A : Mem → Prop} {K : Mem → Prop} (I : LInv M) (v : Val (M 120)) (c : ¬ (isR (M 120) x ∧ isR (M 120) y)) (k : ∀ M', LInv M' → K M') :
    wp_X5_pair x y M (fun r2 M1 => wp_X5_refused r2 M1 (fun r4 M3 => (r4 = 0 → A M3) ∧ (¬ r4 = 0 → Tail 1 K 0 M3))) := by
  have hr : rn (M 120) ≤ 20 := by obtain ⟨-, -, -, -, -, -, -, -, -, -, v11, -⟩ := id v; unfold rn; omega
  refine s5_pair v (fun a b hab hb hx hy => absurd ?_ c) (fun _ => s5_ref1 ⟨fun z => absurd z (by decide), fun _ => tail_ref I (by decide) k⟩) (fun a b _ => absurd ⟨a, b⟩ c)
  subst hx hy
  exact ⟨isR_of (by omega) hr, isR_of hb hr⟩
theorem pair_ref2 {x y : Int32} {M : Mem} {A : Mem → Prop} {K : Mem → Prop} (I : LInv M) (v : Val (M 120)) (c1 : isR (M 120) x) (c2 : isR (M 120) y) (c3 : ¬ x < y) (k : ∀ M', LInv M' → K M') :
    wp_X5_pair x y M (fun r2 M1 => wp_X5_refused r2 M1 (fun r4 M3 => (r4 = 0 → A M3) ∧ (¬ r4 = 0 → Tail 2 K 0 M3))) := by
  have hr : rn (M 120) ≤ 20 := by obtain ⟨-, -, -, -, -, -, -, -, -, -, v11, -⟩ := id v; unfold rn; omega
  refine s5_pair v (fun a b hab hb hx hy => absurd ?_ c3) (fun c => absurd ⟨c1, c2⟩ c) (fun _ _ _ => s5_ref2 ⟨fun z => absurd z (by decide), fun _ => tail_ref I (by decide) k⟩)
  subst hx hy
  exact (nI_ltI (by omega) (by omega)).mpr hab
theorem pair_ok {a b : Nat} {M : Mem} {A : Mem → Prop} {B : Mem → Prop} (v : Val (M 120)) (hab : a < b) (hb : b < rn (M 120)) (k : A (mup M 117 0 0)) :
    wp_X5_pair (nI a) (nI b) M (fun r2 M1 => wp_X5_refused r2 M1 (fun r4 M3 => (r4 = 0 → A M3) ∧ (¬ r4 = 0 → B M3))) := by
  have hr : rn (M 120) ≤ 20 := by obtain ⟨-, -, -, -, -, -, -, -, -, -, v11, -⟩ := id v; unfold rn; omega
  exact s5_pair v (fun _ _ _ _ _ _ => s5_ref0 ⟨fun _ => k, fun z => absurd rfl z⟩) (fun c => absurd ⟨isR_of (by omega) hr, isR_of hb hr⟩ c) (fun _ _ c => absurd ((nI_ltI (by omega) (by omega)).mpr hab) c)
/-- a time, in both widths -/
def tmF (m s : Int32) : Int32 := Int32.ofInt (m.toInt * 60000 / (900 * s.toInt))
theorem tm_rng {m s : Int} (hm : 0 ≤ m ∧ m ≤ 10800) (hs : 0 < s ∧ s ≤ 1000) : 0 ≤ m * 60000 / (900 * s) ∧ m * 60000 / (900 * s) ≤ 648000000 := by
  refine ⟨Int.ediv_nonneg (by omega) (by omega), ?_⟩
  have := Int.ediv_le_self (a := m * 60000) (900 * s) (by omega)
  omega
theorem tm32 {m s : Int32} (hm : 0 ≤ m.toInt ∧ m.toInt ≤ 10800) (hs : 0 < s.toInt ∧ s.toInt ≤ 1000) : m * 60000 / (900 * s) = tmF m s ∧ ¬ 900 * s = 0 := by
  have e6 : (60000 : Int32).toInt = 60000 := rfl
  have e9 : (900 : Int32).toInt = 900 := rfl
  have a : (m * 60000).toInt = m.toInt * 60000 := by rw [i32_mul (by rw [e6]; omega) (by rw [e6]; omega), e6]
  have b : (900 * s).toInt = 900 * s.toInt := by rw [i32_mul (by rw [e9]; omega) (by rw [e9]; omega), e9]
  have r := tm_rng hm hs
  refine ⟨?_, fun z => ?_⟩
  · unfold tmF
    rw [i32_eq, i32_div (fun z => ?_), a, b, Int.tdiv_eq_ediv_of_nonneg (by omega), i32_ofInt (by omega) (by omega)]
    have := congrArg Int32.toInt z
    rw [b] at this
    have : (-1 : Int32).toInt = -1 := rfl
    omega
  · have := congrArg Int32.toInt z
    rw [b, i0] at this
    omega
theorem i64_mul {x y : Int64} (h1 : -9223372036854775808 ≤ x.toInt * y.toInt) (h2 : x.toInt * y.toInt < 9223372036854775808) : (x * y).toInt = x.toInt * y.toInt := by
  rw [Int64.toInt_mul]; exact Int.bmod_eq_of_le (by omega) (by omega)
theorem i64_add {x y : Int64} (h1 : -9223372036854775808 ≤ x.toInt + y.toInt) (h2 : x.toInt + y.toInt < 9223372036854775808) : (x + y).toInt = x.toInt + y.toInt := by
  rw [Int64.toInt_add]; exact Int.bmod_eq_of_le (by omega) (by omega)
theorem i64_sub {x y : Int64} (h1 : -9223372036854775808 ≤ x.toInt - y.toInt) (h2 : x.toInt - y.toInt < 9223372036854775808) : (x - y).toInt = x.toInt - y.toInt := by
  rw [Int64.toInt_sub]; exact Int.bmod_eq_of_le (by omega) (by omega)
theorem i64_to32 {x : Int64} (h1 : -2147483648 ≤ x.toInt) (h2 : x.toInt < 2147483648) : x.toInt32.toInt = x.toInt := by
  rw [Int64.toInt_toInt32]; exact Int.bmod_eq_of_le (by omega) (by omega)
theorem tm64 {m s : Int32} (hm : 0 ≤ m.toInt ∧ m.toInt ≤ 10800) (hs : 0 < s.toInt ∧ s.toInt ≤ 1000) : (m.toInt64 * 60000 / (900 * s.toInt64)).toInt32 = tmF m s ∧ ¬ 900 * s.toInt64 = 0 := by
  have e6 : (60000 : Int64).toInt = 60000 := rfl
  have e9 : (900 : Int64).toInt = 900 := rfl
  have e0 : (0 : Int64).toInt = 0 := rfl
  have a : (m.toInt64 * 60000).toInt = m.toInt * 60000 := by rw [i64_mul (by rw [e6, i64_of32]; omega) (by rw [e6, i64_of32]; omega), e6, i64_of32]
  have b : (900 * s.toInt64).toInt = 900 * s.toInt := by rw [i64_mul (by rw [e9, i64_of32]; omega) (by rw [e9, i64_of32]; omega), e9, i64_of32]
  have r := tm_rng hm hs
  refine ⟨?_, fun z => ?_⟩
  · have d : (m.toInt64 * 60000 / (900 * s.toInt64)).toInt = m.toInt * 60000 / (900 * s.toInt) := by
      rw [Int64.toInt_div_of_ne_right _ _ (fun z => ?_), a, b, Int.tdiv_eq_ediv_of_nonneg (by omega)]
      have := congrArg Int64.toInt z
      rw [b] at this
      have : (-1 : Int64).toInt = -1 := rfl
      omega
    unfold tmF
    rw [i32_eq, i64_to32 (by omega) (by omega), d, i32_ofInt (by omega) (by omega)]
  · have := congrArg Int64.toInt z
    rw [b, e0] at this
    omega
/-- time -/
theorem c_time {x y : Int32} {M : Mem} {V1 V2 : Prop} {K : Mem → Prop} (I : LInv M) (hv1 : V1) (hv2 : V2) (k : ∀ M', LInv M' → K M') :
    wp_L_time x y M (fun r7 M6 => V1 ∧ V2 ∧ wp_X5_time x y M6 (Tail r7 K)) := by
  obtain ⟨⟨h, s, e, v⟩, -⟩ := id I
  obtain ⟨v0, -⟩ := id v
  have hr : rn (M 120) ≤ 20 := by obtain ⟨-, -, -, -, -, -, -, -, -, -, v11, -⟩ := id v; unfold rn; omega
  simp only [wp_L_time, wp_X4_time, forall_eq]
  refine s_pair s e v (fun a b hab hb hx hy => ?_) (fun c => ⟨fun _ => ⟨hv1, hv2, ?_⟩, fun z => absurd z (by decide), Or.inl rfl⟩) (fun c1 c2 c3 => ⟨fun z => absurd z (by decide), fun _ => ⟨hv1, hv2, ?_⟩, Or.inr rfl⟩)
  · subst hx hy
    have m : ∀ a, mup M 126 0 a 120 = M 120 := fun a => by rw [mup_ne (by decide)]
    have m2 : ∀ a b, mup (mup M 126 0 a) 117 0 b 120 = M 120 := fun a b => by rw [mup_ne (by decide), mup_ne (by decide)]
    rw [s.set (by decide), e.lo (by decide)]
    have ea : (if 0 ≤ M 120 0 then M 120 0 else 0 - M 120 0) = nI (M 120 0).toInt.natAbs := abs_nI v0.1 v0.2
    rw [ea]
    obtain ⟨-, t2, t3, -⟩ := sin_tab (M 120 0).toInt.natAbs (by omega)
    have eS : sinF (nI (M 120 0).toInt.natAbs) = sinA (nI (M 120 0).toInt.natAbs) := by
      unfold sinF
      rw [if_pos]
      rw [i32_le, i0, nI_toInt (by omega)]; omega
    have eN : sinF (M 120 0) = if 0 ≤ M 120 0 then sinA (nI (M 120 0).toInt.natAbs) else -(sinA (nI (M 120 0).toInt.natAbs)) := by
      unfold sinF
      by_cases c : 0 ≤ M 120 0
      · rw [if_pos c, if_pos c]; rw [if_pos c] at ea; rw [← ea]
      · rw [if_neg c, if_neg c]; rw [if_neg c] at ea; rw [← ea]
    refine s_sineOf (by rw [nI_toInt (by omega)]; omega) (by rw [nI_toInt (by omega)]; omega) ?_
    rw [eS]
    generalize sinA (nI (M 120 0).toInt.natAbs) = S at t2 t3 eN
    have mr := aroundF_rng (M 120 (153 + 3 * b) - M 120 (153 + 3 * a))
    have em : aroundF (h (153 + 3 * b) - h (153 + 3 * a)) = mvF (M 120) a b := PEq_mv e (by omega) hb
    have hm : 0 ≤ (mvF (M 120) a b).toInt ∧ (mvF (M 120) a b).toInt < 10800 := mr
    -- the reference's side, up to the values
    have side : ∀ r, (S = 0 → r = -9) → (S ≠ 0 → r = tmF (if 0 ≤ M 120 0 then mvF (M 120) a b else aroundF (-(mvF (M 120) a b))) S) → V1 ∧ V2 ∧ wp_X5_time (nI a) (nI b) (mup M 126 0 r) (Tail 0 K) := by
      intro r hr0 hr1
      refine ⟨hv1, hv2, ?_⟩
      simp only [wp_X5_time, forall_eq]
      refine pair_ok (by rw [m]; exact v) hab (by rw [m]; exact hb) ?_
      rw [m2]
      refine s5_sineOf (I.out.ref).2.2.2.2 v0.1 v0.2 (s5_moveOf (by omega) (by omega) ?_)
      rw [m2, eN]
      generalize hmv : mvF (M 120) a b = mv at hm hr1
      have d108 : (10800 : Int32).toInt = 10800 := rfl
      by_cases cS : S = 0
      · have : (if 0 ≤ M 120 0 then S else -S) = 0 := by subst cS; split <;> rfl
        rw [this, hr0 cS]
        exact ⟨fun z => absurd rfl z, fun _ => tail_q I k⟩
      · have S0 : 0 < S.toInt := by
          have : S.toInt ≠ 0 := fun z => cS (by rw [i32_eq, z]; rfl)
          omega
        have nS : (-S).toInt = -S.toInt := i32_neg (by omega)
        have hr1' := hr1 cS
        by_cases cl : 0 ≤ M 120 0
        · rw [if_pos cl] at hr1' ⊢
          have l1 : ¬ S ≤ 0 := by rw [i32_le, i0]; omega
          have l2 : 0 ≤ S := by rw [i32_le, i0]; omega
          obtain ⟨q1, q2⟩ := tm64 (m := mv) (s := S) (by omega) (by omega)
          refine ⟨fun _ => ⟨fun z => absurd z l1, fun _ => ⟨fun _ => ⟨q2, ?_⟩, fun z => absurd l2 z⟩⟩, fun z => absurd z cS⟩
          rw [q1, hr1']
          exact tail_q I k
        · rw [if_neg cl] at hr1' ⊢
          have l0 : ¬ -S = 0 := by rw [i32_eq, nS, i0]; omega
          have l1 : -S ≤ 0 := by rw [i32_le, nS, i0]; omega
          have l2 : ¬ 0 ≤ -S := by rw [i32_le, nS, i0]; omega
          have nn : - -S = S := Int32.neg_neg
          refine ⟨fun _ => ⟨fun _ => ⟨fun c0 => ⟨fun z => absurd z l2, fun _ => ?_⟩, fun c0 => ⟨fun z => absurd z l2, fun _ => ?_⟩⟩, fun z => absurd l1 z⟩, fun z => absurd z l0⟩
          · have n0 : mv.toInt ≠ 0 := fun z => c0 (by rw [i32_eq, z]; rfl)
            have er : (10800 - mv).toInt = 10800 - mv.toInt := by rw [i32_sub (by rw [d108]; omega) (by rw [d108]; omega), d108]
            obtain ⟨q1, q2⟩ := tm64 (m := 10800 - mv) (s := S) (by omega) (by omega)
            have ear : aroundF (-mv) = 10800 - mv := by
              rw [i32_eq, aroundF_toInt, i32_neg (by omega), er]; omega
            rw [nn]
            refine ⟨q2, ?_⟩
            rw [q1, hr1', ear]
            exact tail_q I k
          · obtain ⟨q1, q2⟩ := tm64 (m := 0) (s := S) (by decide) (by omega)
            have ear : aroundF (-mv) = 0 := by
              rw [c0]; rfl
            rw [nn]
            refine ⟨q2, ?_⟩
            have q3 : ((0 : Int64) * 60000 / (900 * S.toInt64)).toInt32 = tmF 0 S := q1
            rw [q3, hr1', ear]
            exact tail_q I k
    refine ⟨fun cS => ?_, fun cS => side _ (fun _ => rfl) (fun z => absurd cS z)⟩
    have S0 : 0 < S.toInt := by
      have : S.toInt ≠ 0 := fun z => cS (by rw [i32_eq, z]; rfl)
      omega
    refine s_moveBetween s (by omega) (by omega) ?_
    rw [em]
    refine ⟨fun cl => ?_, fun cl => s_around ?_⟩
    · obtain ⟨q1, q2⟩ := tm32 (m := mvF (M 120) a b) (s := S) (by omega) (by omega)
      exact ⟨q2, side _ (fun z => absurd z cS) (fun _ => by rw [q1, if_pos cl])⟩
    · have ar := aroundF_rng (-(mvF (M 120) a b))
      obtain ⟨q1, q2⟩ := tm32 (m := aroundF (-(mvF (M 120) a b))) (s := S) (by omega) (by omega)
      exact ⟨q2, side _ (fun z => absurd z cS) (fun _ => by rw [q1, if_neg cl])⟩
  · simp only [wp_X5_time, forall_eq]
    exact pair_ref1 I v c k
  · simp only [wp_X5_time, forall_eq]
    exact pair_ref2 I v c1 c2 c3 k

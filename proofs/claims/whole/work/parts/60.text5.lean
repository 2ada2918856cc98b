theorem pow5 {m : Nat} (h : m ≤ 4) : 0 < 10 ^ m ∧ 10 ^ m ≤ 10000 := by
  rcases (show m = 0 ∨ m = 1 ∨ m = 2 ∨ m = 3 ∨ m = 4 by omega) with z | z | z | z | z <;> subst z <;> decide
/-- the reference's number: all its digits, or the first sign that may not stand -/
theorem s5_number {D a n lo hi fl : Nat} {t : Page} {M : Mem} {Q : Int32 → Mem → Prop} (hD : 1 ≤ D ∧ D ≤ 4) (hn : n ≤ 100) (ha : a ≤ n) (e2 : M 117 2 = nI n) (e3 : M 117 3 = nI a) (et : M 118 = t) (hc : ∀ j, j < n → 0 ≤ (t j).toInt ∧ (t j).toInt ≤ 255) (v9 : 0 ≤ (M 119 9).toInt ∧ (M 119 9).toInt ≤ 40) (hlo : lo < 10000) (hhi : hi < 10000) (hf : fl ≤ 1) (u0 : upTo t a)
    (hA : ∀ m, m < D → upTo t (a + m) → a + m < n → (alw t (a + m) ↔ isD t (a + m) ∧ Fr5 (M 119) fl (max lo (num t a (m + 1) * 10 ^ (D - 1 - m))) (min hi (num t a (m + 1) * 10 ^ (D - 1 - m) + 10 ^ (D - 1 - m) - 1))))
    (kE : ∀ s, a ≤ s → s < a + D → s ≤ n → upTo t s → (s < n → ¬ alw t s) → Q (-9) (mup M 117 3 (nI s)))
    (kN : upTo t (a + D) → a + D ≤ n → Q (nI (num t a D)) (mup M 117 3 (nI (a + D)))) : wp_X5_number (nI D) (nI lo) (nI hi) (nI fl) M Q := by
  have e9 : (9 : Int64).toInt = 9 := rfl
  have hpow : ∀ i, 1 ≤ i → nI (10 ^ (i - 1)) * 10 = nI (10 ^ (i + 1 - 1)) := fun i h => by
    obtain ⟨d, hd⟩ : ∃ d, i = d + 1 := ⟨i - 1, by omega⟩
    subst hd
    rw [show (10 : Int32) = nI 10 from rfl, nI_mul, Nat.add_sub_cancel, Nat.add_sub_cancel, Nat.pow_succ]
  refine ⟨fun w z M' => M' = M ∧ ∃ i, 1 ≤ i ∧ i ≤ D ∧ w = nI i ∧ z = nI (10 ^ (i - 1)), fun w _ _ => 1000 - w.toNatClampNeg, ⟨rfl, 1, Nat.le_refl _, hD.1, rfl, rfl⟩, ?_⟩
  rintro w z M' ⟨rfl, i, hi1, hi2, rfl, rfl⟩
  simp only [forall_eq]
  rw [nI_leI (by omega) (by omega)]
  refine ⟨fun c => ?_, fun c => ⟨⟨trivial, i + 1, by omega, by omega, nI_1 i, hpow i hi1⟩, mu_lt (by omega) (by decide)⟩⟩
  have : i = D := by omega
  subst this
  clear hi1 hi2 c
  refine ⟨fun w z M'' => ∃ m, m ≤ i ∧ a + m ≤ n ∧ w = nI (num t a m * 10 ^ (i - m)) ∧ z = nI (10 ^ (i - m) / 10) ∧ M'' = mup M' 117 3 (nI (a + m)) ∧ upTo t (a + m) ∧ ∀ j, j < m → isD t (a + j), fun _ z _ => z.toNatClampNeg, ⟨0, Nat.zero_le _, ha, ?_, ?_, (mup_id e3).symm, u0, fun j hj => absurd hj (by omega)⟩, ?_⟩
  · show (0 : Int32) = nI (0 * 10 ^ (i - 0)); rw [Nat.zero_mul]; rfl
  · obtain ⟨d, hd⟩ : ∃ d, i = d + 1 := ⟨i - 1, by omega⟩
    subst hd
    rw [Nat.sub_zero, Nat.pow_succ, Nat.mul_div_cancel _ (by decide), Nat.add_sub_cancel]
  rintro w z M'' ⟨m, hm, han, rfl, rfl, rfl, u, dd⟩
  have p5 := pow5 (m := i - m) (by omega)
  have q2 : mup M' 117 3 (nI (a + m)) 117 2 = nI n := by rw [mup_self, updE, if_neg (by decide), e2]
  have q3 : mup M' 117 3 (nI (a + m)) 117 3 = nI (a + m) := by rw [mup_self, updE, if_pos rfl]
  have q118 : mup M' 117 3 (nI (a + m)) 118 = t := by rw [mup_ne (by decide), et]
  have q119 : mup M' 117 3 (nI (a + m)) 119 = M' 119 := by rw [mup_ne (by decide)]
  rw [show (0 : Int32) = nI 0 from rfl, nI_leI (by omega) (by omega), q2, q3, nI_leI (by omega) (by omega), q118, nI_clamp (by omega)]
  by_cases cm : m = i
  · subst cm
    refine ⟨fun _ => ?_, fun c => absurd ?_ c⟩
    · rw [Nat.sub_self, Nat.pow_zero, Nat.mul_one]
      exact kN u han
    · rw [Nat.sub_self, Nat.pow_zero]; decide
  · obtain ⟨d, hd⟩ : ∃ d, i - m = d + 1 := ⟨i - m - 1, by omega⟩
    have hd2 : i - 1 - m = d := by omega
    have hd3 : i - (m + 1) = d := by omega
    have pd := pow5 (m := d) (by omega)
    have e10 : 10 ^ (i - m) / 10 = 10 ^ d := by rw [hd, Nat.pow_succ, Nat.mul_div_cancel _ (by decide)]
    have nm := num_lt m dd
    rw [e10]
    refine ⟨fun c => absurd c (by omega), fun _ => ⟨fun c => ?_, fun c => ⟨vp_in_nI (by omega) (by decide), ?_⟩⟩⟩
    · have hs : a + m = n := by omega
      refine s5_in32 0 9 rfl rfl (fun x y => absurd x (by decide)) (fun _ => ⟨fun _ => ?_, fun y => absurd rfl y⟩)
      exact kE (a + m) (by omega) (by omega) han u (fun h => absurd h (by omega))
    · have hlt : a + m < n := by omega
      have A := hA m (by omega) u hlt
      rw [hd2] at A
      have d48 : (48 : Int32).toInt = 48 := rfl
      have bad : ¬ alw t (a + m) → Q (-9) (mup M' 117 3 (nI (a + m))) := fun na => kE (a + m) (by omega) (by omega) han u (fun _ => na)
      by_cases hdg : isD t (a + m)
      · obtain ⟨dv1, dv2⟩ := dg_val hdg
        refine s5_in32 0 9 rfl rfl (fun x y => ⟨fun z => absurd z (by decide), fun _ => ?_⟩) (fun c => absurd (by rw [dv1]; omega) c)
        have D1 : ∀ j, j < m + 1 → isD t (a + j) := fun j hj => by
          by_cases e : j = m
          · subst e; exact hdg
          · exact dd j (by omega)
        have n1 := num_lt (m + 1) D1
        have b1 : num t a (m + 1) * 10 ^ d < 10 ^ (m + 1) * 10 ^ d := Nat.mul_lt_mul_of_pos_right n1 pd.1
        rw [← Nat.pow_add] at b1
        have b2 := (pow5 (m := m + 1 + d) (by omega)).2
        have ef : nI (num t a m * 10 ^ (i - m)) + (t (a + m) - 48) * nI (10 ^ d) = nI (num t a (m + 1) * 10 ^ d) := by
          rw [dg_nI hdg, nI_mul, nI_addn]
          congr 1
          show _ = (10 * num t a m + dg t (a + m)) * 10 ^ d
          rw [hd, Nat.pow_succ, Nat.add_mul, Nat.mul_comm (10 ^ d) 10, ← Nat.mul_assoc, Nat.mul_comm (num t a m) 10]
        have eg : nI (num t a (m + 1) * 10 ^ d) + nI (10 ^ d) - 1 = nI (num t a (m + 1) * 10 ^ d + 10 ^ d - 1) := by
          rw [nI_addn, show (1 : Int32) = nI 1 from rfl, Int32.sub_eq_iff_eq_add, nI_addn]; congr 1; omega
        rw [ef, eg]
        have hV : num t a (m + 1) * 10 ^ d < 10000 := by omega
        have fin : ∀ L H : Nat, L = max lo (num t a (m + 1) * 10 ^ d) → H = min hi (num t a (m + 1) * 10 ^ d + 10 ^ d - 1) → wp_X5_isFree (nI L) (nI H) (nI fl) (mup M' 117 3 (nI (a + m))) (fun r59 M58 => (¬ r59 = nI 0 → (∃ m', m' ≤ i ∧ a + m' ≤ n ∧ nI (num t a (m + 1) * 10 ^ d) = nI (num t a m' * 10 ^ (i - m')) ∧ nI (10 ^ d) / 10 = nI (10 ^ (i - m') / 10) ∧ mup M58 117 3 (M58 117 3 + 1) = mup M' 117 3 (nI (a + m')) ∧ upTo t (a + m') ∧ ∀ j, j < m' → isD t (a + j)) ∧ (nI (10 ^ d) / 10).toNatClampNeg < (nI (10 ^ d)).toNatClampNeg) ∧ (r59 = nI 0 → Q (-9) M58)) := by
          intro L H hL hH
          rw [← hL, ← hH] at A
          have z1 : L < 100000 := by rw [hL]; exact Nat.max_lt.mpr ⟨by omega, by omega⟩
          have z2 : H < 100000 := by rw [hH]; exact Nat.lt_of_le_of_lt (Nat.min_le_left _ _) (by omega)
          refine s5_isFree z1 z2 hf (by rw [q119]; exact v9) (fun fr => ⟨fun _ => ⟨⟨m + 1, by omega, by omega, by rw [hd3], ?_, ?_, fun j hj => ?_, D1⟩, ?_⟩, fun y => absurd y (by decide)⟩) (fun fr => ⟨fun y => absurd rfl y, fun _ => bad (fun al => fr ?_)⟩)
          · rw [hd3]; exact nI_div (b := 10) (by omega) (by decide) (by decide)
          · rw [q3, nI_1, mup_mup]; rfl
          · by_cases e : j = a + m
            · subst e; rw [q119] at fr; exact A.mpr ⟨hdg, fr⟩
            · exact u j (by omega)
          · have : nI (10 ^ d) / 10 = nI (10 ^ d / 10) := nI_div (b := 10) (by omega) (by decide) (by decide)
            rw [this, nI_clamp (by omega), nI_clamp (by omega)]
            omega
          · rw [q119]; exact (A.mp al).2
        rw [nI_leI (by omega) (by omega), nI_leI (by omega) (by omega)]
        refine ⟨fun c1 => ⟨fun c2 => fin _ _ (Nat.max_eq_right c1).symm (Nat.min_eq_right c2).symm, fun c2 => fin _ _ (Nat.max_eq_right c1).symm (Nat.min_eq_left (by omega)).symm⟩, fun c1 => ⟨fun c2 => fin _ _ (Nat.max_eq_left (by omega)).symm (Nat.min_eq_right c2).symm, fun c2 => fin _ _ (Nat.max_eq_left (by omega)).symm (Nat.min_eq_left (by omega)).symm⟩⟩
      · refine s5_in (fun x y => absurd ?_ hdg) (fun _ => ⟨fun _ => bad (fun al => hdg (A.mp al).1), fun y => absurd rfl y⟩)
        rw [i64_of32] at x y
        have e0 : (0 : Int64).toInt = 0 := rfl
        rw [e0] at x
        rw [e9] at y
        have lo' := i32_lo (t (a + m))
        have hi' := i32_hi (t (a + m))
        by_cases cc : -2147483648 ≤ (t (a + m)).toInt - 48
        · rw [i32_sub (by rw [d48]; omega) (by rw [d48]; omega), d48] at x y
          exact ⟨by omega, by omega⟩
        · exact absurd (hc _ hlt).1 (by omega)

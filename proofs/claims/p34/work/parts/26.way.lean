/-! LONG DIVISION, ROUNDED DOWN; THE WAY OF A TURN -/
theorem i64_eq {x y : Int64} : x = y ↔ x.toInt = y.toInt := Int64.toInt_inj.symm
theorem i64_lo (x : Int64) : -9223372036854775808 ≤ x.toInt := x.le_toInt
theorem i64_hi (x : Int64) : x.toInt < 9223372036854775808 := x.toInt_lt
theorem i64_le {x y : Int64} : x ≤ y ↔ x.toInt ≤ y.toInt := Int64.le_iff_toInt_le
theorem i64_lt {x y : Int64} : x < y ↔ x.toInt < y.toInt := Int64.lt_iff_toInt_lt
theorem i64_ofInt {z : Int} (h1 : -9223372036854775808 ≤ z) (h2 : z < 9223372036854775808) : (Int64.ofInt z).toInt = z := Int64.toInt_ofInt_of_le h1 h2
theorem i32_ofInt {z : Int} (h1 : -2147483648 ≤ z) (h2 : z < 2147483648) : (Int32.ofInt z).toInt = z := Int32.toInt_ofInt_of_le h1 h2
theorem i64_xor_sign {x y : Int64} (hy : 0 ≤ y.toInt) : (0 ≤ (x ^^^ y).toInt) ↔ 0 ≤ x.toInt := by
  have h1 : ∀ z : Int64, (0 ≤ z.toInt) ↔ z.toBitVec.msb = false := fun z => by
    have := BitVec.msb_eq_toInt (x := z.toBitVec)
    show (0 ≤ z.toBitVec.toInt) ↔ _
    rw [this]
    simp
  rw [h1, h1, Int64.toBitVec_xor, BitVec.msb_xor]
  rw [h1] at hy
  rw [hy]
  simp
theorem tmod_np {a b : Int} (h : a ≤ 0) : a.tmod b ≤ 0 := by
  have := Int.tmod_nonneg b (show 0 ≤ -a by omega)
  rw [Int.neg_tmod] at this
  omega
theorem ediv_of_tdiv {a b : Int} (hb : 0 < b) : a / b = if 0 ≤ a ∨ a.tmod b = 0 then a.tdiv b else a.tdiv b - 1 := by
  have h := Int.tmod_add_mul_tdiv a b
  have h4 := Int.tmod_lt_of_pos a hb
  have h5 : -b < a.tmod b := Int.lt_tmod_of_pos a hb
  by_cases c : 0 ≤ a
  · rw [if_pos (Or.inl c), Int.tdiv_eq_ediv_of_nonneg c]
  · by_cases c2 : a.tmod b = 0
    · rw [if_pos (Or.inr c2)]
      exact ((Int.ediv_emod_unique hb).mpr ⟨h, by omega, by omega⟩).1
    · rw [if_neg (by omega)]
      have h6 : a.tmod b ≤ 0 := by
        exact tmod_np (by omega)
      refine ((Int.ediv_emod_unique hb (r := a.tmod b + b)).mpr ⟨?_, by omega, by omega⟩).1
      rw [Int.mul_sub]
      omega
theorem s_floorDiv {x y : Int64} {M : Mem} {Q : Int64 → Mem → Prop} (hy : 0 < y.toInt) (k : Q (Int64.ofInt (x.toInt / y.toInt)) M) : wp_J9_floorDiv_f86c9 x y M Q := by
  have hx1 := i64_lo x
  have hx2 := i64_hi x
  have h := Int.tmod_add_mul_tdiv x.toInt y.toInt
  have h4 := Int.tmod_lt_of_pos x.toInt hy
  have h5 : -y.toInt < x.toInt.tmod y.toInt := Int.lt_tmod_of_pos x.toInt hy
  have hy0 : ¬ y = 0 := by rintro rfl; exact absurd hy (by decide)
  have hd : (x / y).toInt = x.toInt.tdiv y.toInt := Int64.toInt_div_of_ne_right x y (by rintro rfl; exact absurd hy (by decide))
  have e0 : (0 : Int64).toInt = 0 := rfl
  have hq := ediv_of_tdiv (a := x.toInt) hy
  simp only [wp_J9_floorDiv_f86c9, forall_eq, lg_cmp_ge, lg_cmp_eq, i64_le, e0, i64_xor_sign (Int.le_of_lt hy)]
  have hm : x.toInt < 0 → ((x / y) * y).toInt = y.toInt * x.toInt.tdiv y.toInt := fun hx => by
    have h6 : x.toInt.tmod y.toInt ≤ 0 := tmod_np (by omega)
    have hy2 := i64_hi y
    rw [Int64.toInt_mul, hd, Int.mul_comm]
    exact Int.bmod_eq_of_le (by omega) (by omega)
  refine ⟨hy0, fun c => ?_, fun c => ⟨fun c2 => ?_, fun c2 => ?_⟩⟩
  · have e : x / y = Int64.ofInt (x.toInt / y.toInt) := by
      rw [hq, if_pos (Or.inl c), ← hd, Int64.ofInt_toInt]
    rw [e]
    exact k
  · rw [i64_eq, hm (by omega)] at c2
    have e : x / y = Int64.ofInt (x.toInt / y.toInt) := by
      rw [hq, if_pos (Or.inr (by omega)), ← hd, Int64.ofInt_toInt]
    rw [e]
    exact k
  · rw [i64_eq, hm (by omega)] at c2
    have e : x / y - 1 = Int64.ofInt (x.toInt / y.toInt) := by
      rw [hq, if_neg (by omega), Int64.ofInt_sub, ← hd, Int64.ofInt_toInt]
      rfl
    rw [e]
    exact k
theorem s_divideDown {x y : Int64} {M : Mem} {Q : Int64 → Mem → Prop} (hy : 0 < y.toInt) (k : Q (Int64.ofInt (x.toInt / y.toInt)) M) : wp_X4_divideDown x y M Q := by
  have e0 : (0 : Int64).toInt = 0 := rfl
  simp only [wp_X4_divideDown, lg_cmp_le, i64_le, e0]
  exact ⟨fun c => absurd c (by omega), fun _ => s_floorDiv hy k⟩
theorem i64_tmod {x y : Int64} (hy : 0 < y.toInt) : (x - x / y * y).toInt = x.toInt.tmod y.toInt := by
  have hx1 := i64_lo x
  have hx2 := i64_hi x
  have hy2 := i64_hi y
  have h := Int.tmod_add_mul_tdiv x.toInt y.toInt
  have h4 := Int.tmod_lt_of_pos x.toInt hy
  have h5 : -y.toInt < x.toInt.tmod y.toInt := Int.lt_tmod_of_pos x.toInt hy
  have hd : (x / y).toInt = x.toInt.tdiv y.toInt := Int64.toInt_div_of_ne_right x y (by rintro rfl; exact absurd hy (by decide))
  have hs : (0 ≤ x.toInt ∧ 0 ≤ x.toInt.tmod y.toInt) ∨ (x.toInt < 0 ∧ x.toInt.tmod y.toInt ≤ 0) := by
    by_cases c : 0 ≤ x.toInt
    · left; exact ⟨c, Int.tmod_nonneg _ c⟩
    · right; exact ⟨by omega, tmod_np (by omega)⟩
  have hm : (x / y * y).toInt = y.toInt * x.toInt.tdiv y.toInt := by
    rw [Int64.toInt_mul, hd, Int.mul_comm]
    exact Int.bmod_eq_of_le (by omega) (by omega)
  rw [Int64.toInt_sub, hm]
  have e : x.toInt - y.toInt * x.toInt.tdiv y.toInt = x.toInt.tmod y.toInt := by omega
  rw [e]
  exact Int.bmod_eq_of_le (by omega) (by omega)
theorem emod_of_tmod {a b : Int} (hb : 0 < b) : a % b = if 0 ≤ a ∨ a.tmod b = 0 then a.tmod b else a.tmod b + b := by
  have h := Int.tmod_add_mul_tdiv a b
  have h2 := ediv_of_tdiv (a := a) hb
  have h3 := Int.emod_def a b
  rw [h3, h2]
  split
  · omega
  · rw [Int.mul_sub]; omega
theorem s_floorMod {x y : Int64} {M : Mem} {Q : Int64 → Mem → Prop} (hy : 0 < y.toInt) (k : Q (Int64.ofInt (x.toInt % y.toInt)) M) : wp_J9_floorMod_f86c9 x y M Q := by
  have ht := i64_tmod (x := x) hy
  have he := emod_of_tmod (a := x.toInt) hy
  have hy0 : ¬ y = 0 := by rintro rfl; exact absurd hy (by decide)
  have hy2 := i64_hi y
  have e0 : (0 : Int64).toInt = 0 := rfl
  have h4 := Int.tmod_lt_of_pos x.toInt hy
  have h5 : -y.toInt < x.toInt.tmod y.toInt := Int.lt_tmod_of_pos x.toInt hy
  simp only [wp_J9_floorMod_f86c9, forall_eq, lg_cmp_ge, lg_cmp_eq, i64_le, e0, i64_xor_sign (Int.le_of_lt hy)]
  have hz : x - x / y * y = 0 ↔ x.toInt.tmod y.toInt = 0 := by rw [i64_eq, ht, e0]
  rw [hz]
  refine ⟨hy0, fun c => ?_, fun c => ⟨fun c2 => ?_, fun c2 => ?_⟩⟩
  · rw [if_pos (Or.inl c)] at he
    have : x - x / y * y = Int64.ofInt (x.toInt % y.toInt) := by
      rw [i64_eq, ht, i64_ofInt (by omega) (by omega), he]
    rw [this]; exact k
  · rw [if_pos (Or.inr c2)] at he
    have : x - x / y * y = Int64.ofInt (x.toInt % y.toInt) := by
      rw [i64_eq, ht, i64_ofInt (by omega) (by omega), he]
    rw [this]; exact k
  · rw [if_neg (by omega)] at he
    have : x - x / y * y + y = Int64.ofInt (x.toInt % y.toInt) := by
      have h6 : x.toInt.tmod y.toInt ≤ 0 := tmod_np (by omega)
      rw [i64_eq, Int64.toInt_add, ht, i64_ofInt (by omega) (by omega), he]
      exact Int.bmod_eq_of_le (by omega) (by omega)
    rw [this]; exact k
/-- the sines of the latitudes -/
theorem sin_range {x : Int32} (h1 : -90 ≤ x.toInt) (h2 : x.toInt ≤ 90) : ∃ n : Nat, n < 91 ∧ (x = nI n ∨ x = -(nI n)) := by
  by_cases c : x.toInt < 0
  · refine ⟨(-x.toInt).toNat, by omega, Or.inr ?_⟩
    rw [i32_eq, i32_neg (by rw [nI_toInt (by omega)]; omega), nI_toInt (by omega)]
    omega
  · exact ⟨x.toInt.toNat, by omega, Or.inl (nI_of_toInt (by omega))⟩
theorem sinF_bound {x : Int32} (h1 : -90 ≤ x.toInt) (h2 : x.toInt ≤ 90) : -1000 ≤ (sinF x).toInt ∧ (sinF x).toInt ≤ 1000 := by
  have h0 : (0 : Int32).toInt = 0 := rfl
  unfold sinF
  by_cases c : 0 ≤ x
  · rw [if_pos c]
    rw [i32_le, h0] at c
    have := sin_tab x.toInt.toNat (by omega)
    rw [← nI_of_toInt c] at this
    omega
  · rw [if_neg c]
    rw [i32_le, h0] at c
    have e : 0 - x = nI (-x.toInt).toNat := by
      rw [i32_eq, i32_sub (by rw [h0]; omega) (by rw [h0]; omega), nI_toInt (by omega), h0]
      omega
    rw [e]
    have := sin_tab (-x.toInt).toNat (by omega)
    rw [i32_neg (by omega)]
    omega
theorem way_val {h : Page} (h0 : -90 ≤ (h 0).toInt ∧ (h 0).toInt ≤ 90) (h1 : 60 ≤ (h 1).toInt ∧ (h 1).toInt ≤ 900) (h6 : 0 ≤ (h 6).toInt ∧ (h 6).toInt < 1000 * (h 1).toInt) :
    (h 6 + 900 * sinF (h 0)).toInt = (h 6).toInt + 900 * (sinF (h 0)).toInt ∧ (1000 * h 1).toInt = 1000 * (h 1).toInt ∧ -15 ≤ wayF h ∧ wayF h ≤ 15 ∧ (900 * sinF (h 0)).toInt = 900 * (sinF (h 0)).toInt := by
  obtain ⟨b1, b2⟩ := sinF_bound h0.1 h0.2
  have e900 : (900 : Int32).toInt = 900 := rfl
  have e1000 : (1000 : Int32).toInt = 1000 := rfl
  have m1 : (900 * sinF (h 0)).toInt = 900 * (sinF (h 0)).toInt := by rw [i32_mul (by rw [e900]; omega) (by rw [e900]; omega), e900]
  have m2 : (1000 * h 1).toInt = 1000 * (h 1).toInt := by rw [i32_mul (by rw [e1000]; omega) (by rw [e1000]; omega), e1000]
  refine ⟨by rw [i32_add (by rw [m1]; omega) (by rw [m1]; omega), m1], m2, ?_, ?_, m1⟩
  · unfold wayF
    rw [Int.le_ediv_iff_mul_le (by omega)]
    omega
  · unfold wayF
    have : ((h 6).toInt + 900 * (sinF (h 0)).toInt) / (1000 * (h 1).toInt) < 16 := by
      rw [Int.ediv_lt_iff_lt_mul (by omega)]
      omega
    omega
theorem rest_val {h : Page} (h0 : -90 ≤ (h 0).toInt ∧ (h 0).toInt ≤ 90) (h1 : 60 ≤ (h 1).toInt ∧ (h 1).toInt ≤ 900) (h6 : 0 ≤ (h 6).toInt ∧ (h 6).toInt < 1000 * (h 1).toInt) :
    (restF h).toInt = (h 6).toInt + 900 * (sinF (h 0)).toInt - wayF h * (1000 * (h 1).toInt) ∧ 0 ≤ (restF h).toInt ∧ (restF h).toInt < 1000 * (h 1).toInt := by
  obtain ⟨e1, e2, w1, w2, -⟩ := way_val h0 h1 h6
  obtain ⟨b1, b2⟩ := sinF_bound h0.1 h0.2
  have hu : 0 < 1000 * (h 1).toInt := by omega
  have m0 := Int.emod_nonneg ((h 6).toInt + 900 * (sinF (h 0)).toInt) (Int.ne_of_gt hu)
  have m1 := Int.emod_lt_of_pos ((h 6).toInt + 900 * (sinF (h 0)).toInt) hu
  have m2 := Int.emod_add_mul_ediv ((h 6).toInt + 900 * (sinF (h 0)).toInt) (1000 * (h 1).toInt)
  have mw : (wayF h) * (1000 * (h 1).toInt) = (1000 * (h 1).toInt) * (((h 6).toInt + 900 * (sinF (h 0)).toInt) / (1000 * (h 1).toInt)) := Int.mul_comm _ _
  have ew : (Int32.ofInt (wayF h)).toInt = wayF h := i32_ofInt (by omega) (by omega)
  have e3 : (Int32.ofInt (wayF h) * (1000 * h 1)).toInt = wayF h * (1000 * (h 1).toInt) := by
    rw [i32_mul (by rw [ew, e2]; omega) (by rw [ew, e2]; omega), ew, e2]
  have e4 : (restF h).toInt = (h 6).toInt + 900 * (sinF (h 0)).toInt - wayF h * (1000 * (h 1).toInt) := by
    unfold restF
    rw [i32_sub (by rw [e1, e3]; omega) (by rw [e1, e3]; omega), e1, e3]
  exact ⟨e4, by omega, by omega⟩
theorem s_wayOfTurn {k : Nat} {h : Page} {M : Mem} {Q : Int32 → Mem → Prop} (s : St M k h) (hs : M (111 + k) 1 = 900 * sinF (h 0)) (hu : M (111 + k) 2 = 1000 * h 1) (h0 : -90 ≤ (h 0).toInt ∧ (h 0).toInt ≤ 90) (h1 : 60 ≤ (h 1).toInt ∧ (h 1).toInt ≤ 900) (h6 : 0 ≤ (h 6).toInt ∧ (h 6).toInt < 1000 * (h 1).toInt)
    (kk : ∀ M', St M' k (upd h 6 (restF h)) → FrS M M' k → Q (Int32.ofInt (wayF h)) M') : wp_X1_wayOfTurn k M Q := by
  obtain ⟨e1, e2, w1, w2, -⟩ := way_val h0 h1 h6
  simp only [wp_X1_wayOfTurn, forall_eq]
  rw [s.rest, hs, hu]
  refine s_divideDown (by rw [Int32.toInt_toInt64, e2]; omega) ?_
  rw [Int32.toInt_toInt64, Int32.toInt_toInt64, e1, e2, hu]
  have e3 : (Int64.ofInt (((h 6).toInt + 900 * (sinF (h 0)).toInt) / (1000 * (h 1).toInt))).toInt32 = Int32.ofInt (wayF h) := by
    rw [i32_eq, Int64.toInt_toInt32]
    show (Int64.ofInt (wayF h)).toInt.bmod _ = _
    rw [i64_ofInt (by omega) (by omega), i32_ofInt (by omega) (by omega)]
    exact Int.bmod_eq_of_le (by omega) (by omega)
  rw [e3]
  exact kk _ (s.f _ (by decide) (by decide)) FrS_mup0

/-! SCRIPTS -/
def lI (n : Nat) : Int64 := Int64.ofInt n
theorem lI_toInt {n : Nat} (h : n < 9223372036854775808) : (lI n).toInt = n := i64_ofInt (by omega) (by omega)
theorem lI_of {x : Int64} (h : 0 ≤ x.toInt) : x = lI x.toInt.toNat := by
  have := i64_hi x
  rw [i64_eq, lI_toInt (by omega)]; omega
theorem lI_div {a b : Nat} (ha : a < 9223372036854775808) (hb : 0 < b) (hb2 : b < 9223372036854775808) : lI a / lI b = lI (a / b) := by
  have : a / b ≤ a := Nat.div_le_self a b
  have hne : lI b ≠ -1 := fun z => by
    have := congrArg Int64.toInt z
    rw [lI_toInt hb2] at this
    have : (-1 : Int64).toInt = -1 := rfl
    omega
  rw [i64_eq, Int64.toInt_div_of_ne_right _ _ hne, lI_toInt ha, lI_toInt hb2, lI_toInt (by omega)]
  exact (Int.ofNat_tdiv a b).symm
theorem lI_mod {a b : Nat} (ha : a < 9223372036854775808) (hb : 0 < b) (hb2 : b < 9223372036854775808) : lI a - lI a / lI b * lI b = lI (a % b) := by
  have : a % b ≤ a := Nat.mod_le a b
  rw [i64_eq, i64_tmod (by rw [lI_toInt hb2]; omega), lI_toInt ha, lI_toInt hb2, lI_toInt (by omega)]
  exact (Int.ofNat_tmod a b).symm
theorem lI_to32 {a : Nat} (h : a < 2147483648) : (lI a).toInt32 = nI a := by
  rw [i32_eq, i64_to32 (by rw [lI_toInt (by omega)]; omega) (by rw [lI_toInt (by omega)]; omega), lI_toInt (by omega), nI_toInt h]
theorem lI_ne {a : Nat} (h : 0 < a) (h2 : a < 9223372036854775808) : ¬ lI a = 0 := fun z => by
  have := congrArg Int64.toInt z
  rw [lI_toInt h2] at this
  have : (0 : Int64).toInt = 0 := rfl
  omega
theorem litG : (100000 : Int64) = lI 100000 := rfl
theorem s_wg {X g : Nat} (hX : X < 9223372036854775808) (hg : g ≤ 10) {M : Mem} {Q : Int64 → Mem → Prop} (k : Q (lI (X / 100000 ^ g)) M) : wp_X4_withoutGroups (lI X) (nI g) M Q := by
  refine ⟨fun w z M' => M' = M ∧ ∃ i, i ≤ g ∧ w = nI i ∧ z = lI (X / 100000 ^ i), fun w _ _ => 100 - w.toNatClampNeg, ⟨rfl, 0, Nat.zero_le _, rfl, by rw [Nat.pow_zero, Nat.div_one]⟩, ?_⟩
  rintro w z M' ⟨rfl, i, hi, rfl, rfl⟩
  simp only [forall_eq]
  rw [nI_leI (by omega) (by omega)]
  refine ⟨fun c => ?_, fun c => ⟨⟨trivial, i + 1, by omega, nI_1 i, ?_⟩, mu_lt (by omega) (by decide)⟩⟩
  · have : i = g := by omega
    subst this; exact k
  · have := Nat.div_le_self X (100000 ^ i)
    rw [litG, lI_div (by omega) (by decide) (by decide), Nat.div_div_eq_div_mul, Nat.pow_succ]
def grp (n X k : Nat) : Nat := X / 100000 ^ (n - 1 - k) % 100000
def doC (g : Page) (n : Nat) : Page × Bool := doF g (n / 10000) (n / 1000 % 10) (n % 1000)
def runF (q : Nat → Nat) : Nat → Nat → Page → Int32
  | 0, _, _ => -9
  | f + 1, k, g => if (doC g (q k)).2 = true then runF q f (k + 1) (doC g (q k)).1 else nI k
theorem run_PEq {q : Nat → Nat} : ∀ (f k : Nat) {h g : Page}, Val g → PEq h g → runF q f k h = runF q f k g
  | 0, _, _, _, _, _ => rfl
  | f + 1, k, h, g, v, e => by
    obtain ⟨e1, e2⟩ := PEq_do v e (q k / 10000) (q k / 1000 % 10) (q k % 1000) (by omega)
    have ih := run_PEq (q := q) f (k + 1) (Val_do v (q k / 10000) (q k / 1000 % 10) (q k % 1000) (by omega)) e1
    unfold runF doC
    rw [e2, ih]
theorem run_s {q : Nat → Nat} {n k : Nat} {g : Page} (h : k < n) : runF q (n - k) k g = if (doC g (q k)).2 = true then runF q (n - (k + 1)) (k + 1) (doC g (q k)).1 else nI k := by
  obtain ⟨m, hm⟩ : ∃ m, n - k = m + 1 := ⟨n - k - 1, by omega⟩
  rw [hm, show n - (k + 1) = m by omega]
  rfl
theorem pow_lt {n : Nat} (h : n ≤ 3) : 0 < 100000 ^ n ∧ 100000 ^ n ≤ 1000000000000000 := by
  rcases (show n = 0 ∨ n = 1 ∨ n = 2 ∨ n = 3 by omega) with z | z | z | z <;> subst z <;> decide
theorem b01_ne {b : Bool} : (¬ b01 b = 0) ↔ b = true := by cases b <;> decide
theorem b01_eq {b : Bool} : b01 b = 0 ↔ ¬ b = true := by cases b <;> decide
/-- the reference runs a script -/
theorem s5_run {n X : Nat} (hn : n ≤ 3) (hX : X < 100000 ^ n) {A : Int64} (hA : A = lI (100000 ^ n)) {g : Page} {M0 : Mem} (v : Val g) (ro : RowOK M0) {Q : Int32 → Mem → Prop} (k : ∀ t, Q (runF (grp n X) n 0 g) (va_up M0 121 t)) :
    ∃ (I12 : Int32 → Int64 → Int64 → Mem → Prop) (mu12 : Int32 → Int64 → Int64 → Mem → Nat), I12 0 (lI X) A (va_up M0 121 g) ∧ ∀ (w13 : Int32) (w14 : Int64) (w15 : Int64) (M16 : Mem), I12 w13 w14 w15 M16 →
                  ((nI n ≤ w13 →
                    Q (-9) M16
                  ) ∧ (¬ nI n ≤ w13 →
                    ¬ w15 / 100000 = 0 ∧
                    ¬ w15 / 100000 = 0 ∧
                    wp_X5_does ((w14 / (w15 / 100000)).toInt32 / 10000) ((w14 / (w15 / 100000)).toInt32 / 1000 - (w14 / (w15 / 100000)).toInt32 / 1000 / 10 * 10) ((w14 / (w15 / 100000)).toInt32 - (w14 / (w15 / 100000)).toInt32 / 1000 * 1000) M16 (fun r27 M26 =>
                      ((¬ r27 = 0 →
                        (I12 (w13 + 1) (w14 - w14 / (w15 / 100000) * (w15 / 100000)) (w15 / 100000) M26 ∧ mu12 (w13 + 1) (w14 - w14 / (w15 / 100000) * (w15 / 100000)) (w15 / 100000) M26 < mu12 w13 w14 w15 M16)
                      ) ∧ (r27 = 0 →
                        Q w13 M26
                      ))
                    )
                  )) := by
  subst hA
  generalize hR : runF (grp n X) n 0 g = R at k
  refine ⟨fun w a b M' => ∃ i p, i ≤ n ∧ w = nI i ∧ a = lI (X % 100000 ^ (n - i)) ∧ b = lI (100000 ^ (n - i)) ∧ M' = va_up M0 121 p ∧ Val p ∧ runF (grp n X) (n - i) i p = R, fun w _ _ _ => 100 - w.toNatClampNeg, ⟨0, g, Nat.zero_le _, rfl, by rw [Nat.sub_zero, Nat.mod_eq_of_lt hX], rfl, rfl, v, hR⟩, ?_⟩
  rintro w a b M' ⟨i, p, hi, rfl, rfl, rfl, rfl, vp, hs⟩
  rw [nI_leI (by omega) (by omega)]
  refine ⟨fun c => ?_, fun c => ?_⟩
  · have : i = n := by omega
    subst this
    rw [Nat.sub_self] at hs
    have hs' : -9 = R := hs
    rw [hs']; exact k _
  · rw [run_s (by omega)] at hs; unfold doC at hs
    obtain ⟨m, hm⟩ : ∃ m, n - i = m + 1 := ⟨n - i - 1, by omega⟩
    have hm2 : n - 1 - i = m := by omega
    have pm := pow_lt (n := m) (by omega)
    have pm1 := pow_lt (n := m + 1) (by omega)
    have ml : X % 100000 ^ (m + 1) < 100000 ^ (m + 1) := Nat.mod_lt _ pm1.1
    have d1 : lI (100000 ^ (n - i)) / 100000 = lI (100000 ^ m) := by
      rw [litG, hm, lI_div (by omega) (by decide) (by decide), Nat.pow_succ, Nat.mul_div_cancel _ (by decide)]
    have d2 : X % 100000 ^ (m + 1) / 100000 ^ m = grp n X i := by
      unfold grp
      rw [hm2, Nat.pow_succ, Nat.mod_mul_right_div_self]
    have gl : grp n X i < 100000 := by unfold grp; omega
    have d3 : (lI (X % 100000 ^ (n - i)) / lI (100000 ^ m)).toInt32 = nI (grp n X i) := by
      rw [hm, lI_div (by omega) pm.1 (by omega), d2, lI_to32 (by omega)]
    have d4 : lI (X % 100000 ^ (n - i)) - lI (X % 100000 ^ (n - i)) / lI (100000 ^ m) * lI (100000 ^ m) = lI (X % 100000 ^ m) := by
      rw [hm, lI_mod (by omega) pm.1 (by omega), Nat.mod_mod_of_dvd X (Nat.pow_dvd_pow 100000 (by omega))]
    rw [d1, d3, d4]
    have nz := lI_ne pm.1 (by omega)
    refine ⟨nz, nz, ?_⟩
    have ea : nI (grp n X i) / 10000 = nI (grp n X i / 10000) := nI_div (b := 10000) (by omega) (by decide) (by decide)
    have eb : nI (grp n X i) / 1000 - nI (grp n X i) / 1000 / 10 * 10 = nI (grp n X i / 1000 % 10) := by
      have : nI (grp n X i) / 1000 = nI (grp n X i / 1000) := nI_div (b := 1000) (by omega) (by decide) (by decide)
      rw [this]; exact nI_mod (b := 10) (by omega) (by decide) (by decide)
    have ec : nI (grp n X i) - nI (grp n X i) / 1000 * 1000 = nI (grp n X i % 1000) := nI_mod (b := 1000) (by omega) (by decide) (by decide)
    rw [ea, eb, ec]
    refine s5_does (by omega) (by omega) (by omega) vp ro ?_
    rw [b01_ne, b01_eq]
    refine ⟨fun z => ⟨⟨i + 1, _, by omega, nI_1 i, ?_, ?_, rfl, Val_do vp _ _ _ (by omega), ?_⟩, mu_lt (by omega) (by decide)⟩, fun z => ?_⟩
    · rw [show n - (i + 1) = m by omega]
    · rw [show n - (i + 1) = m by omega]
    · rw [if_pos z] at hs; exact hs
    · rw [if_neg z] at hs
      rw [hs]; exact k _
theorem blk_ok {x0 : Int32} {x1 A : Int64} {M : Mem} {J J' J'' : Mem → Prop} {B B' B'' : Mem → Prop} (h0 : 1 ≤ x0.toInt ∧ x0.toInt ≤ 3) (h1 : 0 ≤ x1.toInt ∧ x1.toInt ≤ (A - 1).toInt) (k : J'' (mup M 117 0 0)) :
    wp_X5_in x0.toInt64 1 3 M (fun r5 M4 => (r5 = 0 → wp_X5_refused 1 M4 (fun r8 M7 => (r8 = 0 → J M7) ∧ (¬ r8 = 0 → B M7))) ∧ (¬ r5 = 0 → wp_X5_in x1 0 (A - 1) M4 (fun r32 M31 => (r32 = 0 → wp_X5_refused 1 M31 (fun r35 M34 => (r35 = 0 → J' M34) ∧ (¬ r35 = 0 → B' M34))) ∧ (¬ r32 = 0 → wp_X5_refused 0 M31 (fun r58 M57 => (r58 = 0 → J'' M57) ∧ (¬ r58 = 0 → B'' M57)))))) := by
  refine s5_in32 1 3 rfl rfl (fun _ _ => ⟨fun z => absurd z (by decide), fun _ => s5_in (fun _ _ => ⟨fun z => absurd z (by decide), fun _ => s5_ref0 ⟨fun _ => k, fun z => absurd rfl z⟩⟩) (fun c => absurd h1 c)⟩) (fun c => absurd h0 c)
theorem blk_bad {x0 : Int32} {x1 A : Int64} {M : Mem} {J J' J'' : Mem → Prop} {K : Mem → Prop} {B'' : Mem → Prop} (I : LInv M) (k : ∀ M', LInv M' → K M') (h : ¬ ((1 ≤ x0.toInt ∧ x0.toInt ≤ 3) ∧ 0 ≤ x1.toInt ∧ x1.toInt ≤ (A - 1).toInt)) :
    wp_X5_in x0.toInt64 1 3 M (fun r5 M4 => (r5 = 0 → wp_X5_refused 1 M4 (fun r8 M7 => (r8 = 0 → J M7) ∧ (¬ r8 = 0 → Tail 1 K 0 M7))) ∧ (¬ r5 = 0 → wp_X5_in x1 0 (A - 1) M4 (fun r32 M31 => (r32 = 0 → wp_X5_refused 1 M31 (fun r35 M34 => (r35 = 0 → J' M34) ∧ (¬ r35 = 0 → Tail 1 K 0 M34))) ∧ (¬ r32 = 0 → wp_X5_refused 0 M31 (fun r58 M57 => (r58 = 0 → J'' M57) ∧ (¬ r58 = 0 → B'' M57)))))) := by
  refine s5_in32 1 3 rfl rfl (fun a b => ⟨fun z => absurd z (by decide), fun _ => s5_in (fun c d => absurd ⟨⟨a, b⟩, c, d⟩ h) (fun _ => ⟨fun _ => s5_ref1 ⟨fun z => absurd z (by decide), fun _ => tail_ref I (by decide) k⟩, fun z => absurd rfl z⟩)⟩) (fun _ => ⟨fun _ => s5_ref1 ⟨fun z => absurd z (by decide), fun _ => tail_ref I (by decide) k⟩, fun z => absurd rfl z⟩)
def scA (x : Int32) : Int64 := if x = 1 then 100000 else if x = 2 then 10000000000 else 1000000000000000
theorem scA_n {n : Nat} (h : 1 ≤ n ∧ n ≤ 3) : scA (nI n) = lI (100000 ^ n) ∧ (scA (nI n) - 1).toInt = 100000 ^ n - 1 := by
  rcases (show n = 1 ∨ n = 2 ∨ n = 3 by omega) with z | z | z <;> subst z <;> exact ⟨rfl, rfl⟩
/-- runScript -/
theorem c_runScript {x : Int32} {y : Int64} {M : Mem} {V1 V2 V3 : Prop} {K : Mem → Prop} (I : LInv M) (hv1 : V1) (hv2 : V2) (hv3 : V3) (k : ∀ M', LInv M' → K M') :
    wp_L_runScript x y M (fun r7 M6 => V1 ∧ V2 ∧ V3 ∧ wp_X5_runScript x y M6 (Tail r7 K)) := by
  obtain ⟨⟨h, s, e, v⟩, -⟩ := id I
  have vh := Val_PEq v e
  have d3 : (3 : Int32).toInt = 3 := rfl
  have e0 : (0 : Int64).toInt = 0 := rfl
  have x2 : ∀ x : Int32, ¬ x = 1 → ¬ x = 2 → scA x = 1000000000000000 := fun x a b => by unfold scA; rw [if_neg a, if_neg b]
  have bad : ¬ ((1 ≤ x.toInt ∧ x.toInt ≤ 3) ∧ 0 ≤ y.toInt ∧ y.toInt ≤ (scA x - 1).toInt) → V1 ∧ V2 ∧ V3 ∧ wp_X5_runScript x y M (Tail 1 K) := fun c => by
    refine ⟨hv1, hv2, hv3, ?_⟩
    simp only [wp_X5_runScript, forall_eq]
    refine ⟨fun a => ⟨fun b => blk_bad I k (by rw [x2 x a b] at c; exact c), fun b => blk_bad I k (by subst b; exact c)⟩, fun a => blk_bad I k (by subst a; exact c)⟩
  have good : ∀ n X, 1 ≤ n → n ≤ 3 → x = nI n → y = lI X → X < 100000 ^ n → ∀ M2, FrM M M2 1 → V1 ∧ V2 ∧ V3 ∧ wp_X5_runScript x y (mup M2 126 0 (runF (grp n X) n 0 (M 120))) (Tail 0 K) := by
    intro n X n1 n3 hx hy hX M2 f2
    have J := I.trial f2
    have g0 : M2 120 = M 120 := f2 120 (by omega) (by omega)
    obtain ⟨A1, A2⟩ := scA_n ⟨n1, n3⟩
    have pl := pow_lt n3
    refine ⟨hv1, hv2, hv3, ?_⟩
    subst hx hy
    have c0 : 1 ≤ (nI n).toInt ∧ (nI n).toInt ≤ 3 := by rw [nI_toInt (by omega)]; omega
    have c1 : 0 ≤ (lI X).toInt ∧ (lI X).toInt ≤ (scA (nI n) - 1).toInt := by
      rw [lI_toInt (by omega), A2]
      have : ((100000 ^ n : Nat) : Int) = 100000 ^ n := by simp
      omega
    simp only [wp_X5_runScript, forall_eq]
    have T : ∀ t, Tail 0 K (runF (grp n X) n 0 (M 120)) (va_up (mup (mup M2 126 0 (runF (grp n X) n 0 (M 120))) 117 0 0) 121 t) := fun t => tail_try J k
    have vM : Val (mup (mup M2 126 0 (runF (grp n X) n 0 (M 120))) 117 0 0 120) := by rw [mk120, g0]; exact v
    have q : ∀ t0, PEq t0 (mup (mup M2 126 0 (runF (grp n X) n 0 (M 120))) 117 0 0 120) → runF (grp n X) n 0 t0 = runF (grp n X) n 0 (M 120) := fun t0 e0 => by
      rw [mk120, g0] at e0
      exact run_PEq n 0 v e0
    refine ⟨fun a => ⟨fun b => ?_, fun b => ?_⟩, fun a => ?_⟩
    · rw [x2 _ a b] at A1 c1
      exact blk_ok c0 c1 (s5_trial vM (fun t0 e0 v0 => s5_run n3 hX A1 v0 J.out.ref.2.2.2.2 (fun t => by rw [q t0 e0]; exact T t)))
    · have : scA (nI n) = 10000000000 := by rw [b]; rfl
      rw [this] at A1 c1
      exact blk_ok c0 c1 (s5_trial vM (fun t0 e0 v0 => s5_run n3 hX A1 v0 J.out.ref.2.2.2.2 (fun t => by rw [q t0 e0]; exact T t)))
    · have : scA (nI n) = 100000 := by rw [a]; rfl
      rw [this] at A1 c1
      exact blk_ok c0 c1 (s5_trial vM (fun t0 e0 v0 => s5_run n3 hX A1 v0 J.out.ref.2.2.2.2 (fun t => by rw [q t0 e0]; exact T t)))
  simp only [wp_L_runScript, wp_X4_runScript, forall_eq]
  rw [i32_lt, i32_le, i1, d3, lg_cmp_lt, i64_lt, e0]
  refine ⟨fun c => ⟨fun _ => bad (by omega), trivial⟩, fun c => ⟨fun c2 => ⟨fun c3 => ⟨fun _ => bad (by omega), trivial⟩, fun c3 => ?_⟩, fun c2 => ⟨fun _ => bad (by omega), trivial⟩⟩⟩
  have hx : x = nI x.toInt.toNat := nI_of_toInt (by omega)
  have hn : 1 ≤ x.toInt.toNat ∧ x.toInt.toNat ≤ 3 := by omega
  have hy : y = lI y.toInt.toNat := lI_of (by omega)
  have hY : y.toInt.toNat < 9223372036854775808 := by have := i64_hi y; omega
  generalize x.toInt.toNat = n at hx hn
  generalize y.toInt.toNat = X at hy hY
  obtain ⟨A1, A2⟩ := scA_n hn
  have pl := pow_lt hn.2
  have G := good n X hn.1 hn.2 hx hy
  rw [hx, hy] at bad G ⊢
  refine s_wg hY (by omega) ?_
  have dl := Nat.div_le_self X (100000 ^ n)
  rw [lg_cmp_le, i64_le, e0, lI_toInt (by omega)]
  have key : X < 100000 ^ n ↔ X / 100000 ^ n = 0 := by rw [Nat.div_eq_zero_iff]; omega
  refine ⟨fun c4 => ?_, fun c4 => ⟨fun _ => bad ?_, trivial⟩⟩
  · have hX : X < 100000 ^ n := key.mpr (Nat.le_zero.mp (Int.ofNat_le.mp c4))
    replace G := G hX
    have eR : runF (grp n X) n 0 h = runF (grp n X) n 0 (M 120) := run_PEq n 0 v e
    refine s_copyFrom s (by decide) (fun M1 s1 f1 => ?_)
    refine ⟨fun w M' => ∃ i p, i ≤ n ∧ w = nI i ∧ St M' 1 p ∧ Val p ∧ FrM M M' 1 ∧ runF (grp n X) (n - i) i p = runF (grp n X) n 0 (M 120), fun w _ => 100 - w.toNatClampNeg, ⟨0, h, Nat.zero_le _, rfl, s1, vh, f1.M, eR⟩, ?_⟩
    rintro w M' ⟨i, p, hi, rfl, s2, vp, f2, hs⟩
    rw [nI_leI (by omega) (by omega)]
    refine ⟨fun c => ?_, fun c => ?_⟩
    · have : i = n := by omega
      subst this
      rw [Nat.sub_self] at hs
      have hs' : -9 = runF (grp i X) i 0 (M 120) := hs
      rw [hs']; exact G _ f2
    · rw [run_s (by omega)] at hs; unfold doC at hs
      have es : nI n - 1 - nI i = nI (n - 1 - i) := by
        have a : nI n - 1 = nI (n - 1) := by rw [show (1 : Int32) = nI 1 from rfl, Int32.sub_eq_iff_eq_add, nI_addn]; congr 1; omega
        rw [a, Int32.sub_eq_iff_eq_add, nI_addn]; congr 1; omega
      have gl : grp n X i < 100000 := by unfold grp; omega
      have dl2 := Nat.div_le_self X (100000 ^ (n - 1 - i))
      rw [es]
      refine s_wg hY (by omega) ?_
      have eg : (lI (X / 100000 ^ (n - 1 - i)) - lI (X / 100000 ^ (n - 1 - i)) / 100000 * 100000).toInt32 = nI (grp n X i) := by
        rw [litG, lI_mod (by omega) (by decide) (by decide)]
        exact lI_to32 (by omega)
      rw [eg]
      refine s_does gl s2 vp (fun M3 s3 f3 => ?_)
      rw [b01_ne, b01_eq]
      refine ⟨fun z => ⟨⟨i + 1, _, by omega, nI_1 i, s3, Val_do vp _ _ _ (by omega), f2.trans f3, ?_⟩, mu_lt (by omega) (by decide)⟩, fun z => ?_⟩
      · rw [if_pos z] at hs; exact hs
      · rw [if_neg z] at hs
        rw [hs]; exact G _ (f2.trans f3)
  · intro z
    have := z.2.2
    rw [A2, lI_toInt (by omega)] at this
    have e : ((100000 ^ n : Nat) : Int) = 100000 ^ n := by simp
    have : ¬ X < 100000 ^ n := fun z => c4 (by have := key.mp z; omega)
    omega

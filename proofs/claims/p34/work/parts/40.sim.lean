/-! THE WALK OF CHANCE -/
def rI (x : Int64) : Int32 := (Int64.toUInt64 x >>> (((33 : Int32)).toInt64.toUInt64 &&& Int64.toUInt64 63)).toInt64.toInt32
theorem rI_lo (x : Int64) : 0 ≤ (rI x).toInt := by
  unfold rI
  have e : (((33 : Int32)).toInt64.toUInt64 &&& Int64.toUInt64 63) = 33 := by decide
  rw [e]
  generalize Int64.toUInt64 x = u
  have h1 : (u >>> 33).toNat = u.toNat / 8589934592 := by
    rw [UInt64.toNat_shiftRight]
    show u.toNat >>> 33 = _
    rw [Nat.shiftRight_eq_div_pow]
  have h2 : u.toNat < 18446744073709551616 := u.toNat_lt
  generalize u >>> 33 = w at h1
  have h3 : w.toNat < 2147483648 := by omega
  have h4 : w.toInt64.toInt = w.toNat := by
    show w.toBitVec.toInt = _
    rw [BitVec.toInt_eq_toNat_of_lt (by show 2 * w.toNat < 2 ^ 64; omega)]
    rfl
  rw [i64_to32 (by rw [h4]; omega) (by rw [h4]; omega), h4]
  omega
def RN (x : Int64) : Nat := (rI x).toInt.toNat
theorem RN_eq (x : Int64) : (Int64.toUInt64 x >>> (((33 : Int32)).toInt64.toUInt64 &&& Int64.toUInt64 63)).toInt64.toInt32 = nI (RN x) := nI_of_toInt (rI_lo x)
theorem RN_lt (x : Int64) : RN x < 2147483648 := by
  have := rI_lo x
  have := i32_hi (rI x)
  unfold RN; omega
def simG (g : Page) (R : Nat) : Page := if R % 8 = 0 then nudgeF g (nI (R / 8 % 121) - 60) else if R % 8 = 1 then gainF g (nI (1 + R / 8 % 500)) else g
def simS (nx : Int64 → Int64) (rr : Int64 → Nat) (s : Page × Int32 × Int64) : Page × Int32 × Int64 :=
  ((turnN (1 + rr (nx s.2.2) / 1024 % 20) (simG s.1 (rr (nx s.2.2)), 0, -9)).1, s.2.1 + (turnN (1 + rr (nx s.2.2) / 1024 % 20) (simG s.1 (rr (nx s.2.2)), 0, -9)).2.1, nx s.2.2)
def simN (nx : Int64 → Int64) (rr : Int64 → Nat) : Nat → Page × Int32 × Int64 → Page × Int32 × Int64
  | 0, s => s
  | n + 1, s => simS nx rr (simN nx rr n s)
theorem sim_sub {R : Nat} : -600 ≤ (nI (R / 8 % 121) - 60).toInt ∧ (nI (R / 8 % 121) - 60).toInt ≤ 600 := by
  have d60 : (60 : Int32).toInt = 60 := rfl
  rw [i32_sub (by rw [d60, nI_toInt (by omega)]; omega) (by rw [d60, nI_toInt (by omega)]; omega), d60, nI_toInt (by omega)]
  omega
theorem Val_simG {g : Page} (v : Val g) (R : Nat) : Val (simG g R) := by
  unfold simG
  split
  · exact Val_nudge v sim_sub
  · split
    · exact Val_gain v (by rw [nI_toInt (by omega)]; omega)
    · exact v
theorem PEq_simG {h g : Page} (e : PEq h g) (R : Nat) : PEq (simG h R) (simG g R) := by
  unfold simG
  split
  · exact PEq_nudge e
  · split
    · exact PEq_gain e
    · exact e
theorem Val_simS {nx : Int64 → Int64} {rr : Int64 → Nat} {s : Page × Int32 × Int64} (v : Val s.1) : Val (simS nx rr s).1 := by
  unfold simS
  exact Val_turnN _ (s := (simG s.1 (rr (nx s.2.2)), 0, -9)) (Val_simG v _)
theorem Val_simN {nx : Int64 → Int64} {rr : Int64 → Nat} (n : Nat) {s : Page × Int32 × Int64} (v : Val s.1) : Val (simN nx rr n s).1 := by
  induction n with
  | zero => exact v
  | succ n ih => exact Val_simS ih
theorem PEq_simS {nx : Int64 → Int64} {rr : Int64 → Nat} {s t : Page × Int32 × Int64} (v : Val t.1) (h1 : PEq s.1 t.1) (h2 : s.2 = t.2) : PEq (simS nx rr s).1 (simS nx rr t).1 ∧ (simS nx rr s).2 = (simS nx rr t).2 := by
  unfold simS
  rw [h2]
  generalize rr (nx t.2.2) = R
  have e1 : PEq (simG s.1 R) (simG t.1 R) := PEq_simG h1 R
  have v1 : Val (simG t.1 R) := Val_simG v R
  generalize 1 + R / 1024 % 20 = N
  generalize simG s.1 R = a at e1
  generalize simG t.1 R = b at e1 v1
  have T := PEq_turnN N (s := (a, 0, -9)) (t := (b, 0, -9)) v1 ⟨e1, rfl⟩
  exact ⟨T.1, by rw [T.2]⟩
theorem PEq_simN {nx : Int64 → Int64} {rr : Int64 → Nat} (n : Nat) {s t : Page × Int32 × Int64} (v : Val t.1) (e : PEq s.1 t.1) (e2 : s.2 = t.2) : PEq (simN nx rr n s).1 (simN nx rr n t).1 ∧ (simN nx rr n s).2 = (simN nx rr n t).2 := by
  induction n with
  | zero => exact ⟨e, e2⟩
  | succ n ih => exact PEq_simS (Val_simN n v) ih.1 ih.2
theorem d60' : (60 : Int32).toInt = 60 := rfl

theorem turnN_cnt {g : Page} (v : Val g) (f : Int32) : ∀ n, ∃ c, c ≤ 15 * n ∧ (turnN n (g, 0, f)).2.1 = nI c
  | 0 => ⟨0, Nat.le_refl _, rfl⟩
  | n + 1 => by
    obtain ⟨c, hc, e⟩ := turnN_cnt v f n
    obtain ⟨d, hd, e2, -⟩ := turnF_fall (Val_turnN n (s := (g, 0, f)) v)
    refine ⟨c + d, by omega, ?_⟩
    show (turnN n (g, 0, f)).2.1 + (turnF (turnN n (g, 0, f)).1 (turnN n (g, 0, f)).2.2).2.1 = _
    rw [e, (turnF_f _ (turnN n (g, 0, f)).2.2 (-9)).2, e2]
    exact nI_add c d
theorem simN_cnt {nx : Int64 → Int64} {rr : Int64 → Nat} {g : Page} (v : Val g) (x : Int64) : ∀ n, ∃ c, c ≤ 300 * n ∧ (simN nx rr n (g, 0, x)).2.1 = nI c
  | 0 => ⟨0, Nat.le_refl _, rfl⟩
  | n + 1 => by
    obtain ⟨c, hc, e⟩ := simN_cnt (nx := nx) (rr := rr) v x n
    have vs := Val_simN (nx := nx) (rr := rr) n (s := (g, 0, x)) v
    generalize hs : simN nx rr n (g, 0, x) = S at e vs
    have e3 : (simN nx rr (n + 1) (g, 0, x)).2.1 = S.2.1 + (turnN (1 + rr (nx S.2.2) / 1024 % 20) (simG S.1 (rr (nx S.2.2)), 0, -9)).2.1 := by
      rw [← hs]; rfl
    generalize rr (nx S.2.2) = N at e3
    obtain ⟨d, hd, e2⟩ := turnN_cnt (Val_simG vs N) (-9) (1 + N / 1024 % 20)
    refine ⟨c + d, by omega, ?_⟩
    rw [e3, e, e2]
    exact nI_add c d
theorem t_sim {K : KS} (v : Val K.1) (x : Int64) {y : Int32} (n : Nat) (hy : y = nI n) (hn : 1 ≤ n ∧ n ≤ 60) : ∃ r : Int32, 0 ≤ r.toInt ∧ Does (wp_L_trySimulate x y) K r K := by
  obtain ⟨nx, hnx⟩ : ∃ nx : Int64 → Int64, ∀ z, z * 6364136223846793005 + 1442695040888963407 = nx z := ⟨fun z => z * 6364136223846793005 + 1442695040888963407, fun _ => rfl⟩
  obtain ⟨rr, hrr, hlt⟩ : ∃ rr : Int64 → Nat, (∀ x, (Int64.toUInt64 x >>> (((33 : Int32)).toInt64.toUInt64 &&& Int64.toUInt64 63)).toInt64.toInt32 = nI (rr x)) ∧ ∀ x, rr x < 2147483648 := ⟨RN, RN_eq, RN_lt⟩
  refine ⟨10000 * (simN nx rr n (K.1, 0, x)).2.1 + (simN nx rr n (K.1, 0, x)).1 5, ?_, ?_⟩
  · obtain ⟨c, hc, e⟩ := simN_cnt (nx := nx) (rr := rr) v x n
    obtain ⟨-, -, -, -, -, v5, -⟩ := id (Val_simN (nx := nx) (rr := rr) n (s := (K.1, 0, x)) v)
    have e1 : (10000 : Int32) * nI c = nI (10000 * c) := nI_mul 10000 c
    rw [e, e1, i32_add (by rw [nI_toInt (by omega)]; omega) (by rw [nI_toInt (by omega)]; omega), nI_toInt (by omega)]
    omega
  intro M Q R k
  obtain ⟨⟨⟨h, s, e⟩, -⟩, -⟩ := id R
  have vh := Val_PEq v e
  have yi : y.toInt = n := by rw [hy, nI_toInt (by omega)]
  simp only [wp_L_trySimulate, wp_X4_simulate, forall_eq]
  rw [i32_lt, i32_le, i1, d60']
  refine ⟨fun c => absurd c (by omega), fun c => ⟨fun c2 => ?_, fun c2 => absurd (by omega) c2⟩⟩
  subst hy
  have eq : ∀ a b : Nat, a < 2147483648 → b < 2147483648 → (nI a = nI b ↔ a = b) := fun a b ha hb => by rw [i32_eq, nI_toInt ha, nI_toInt hb]; omega
  have m8 : ∀ R, R < 2147483648 → nI R - nI R / 8 * 8 = nI (R % 8) := fun R hR => nI_mod (b := 8) hR (by decide) (by decide)
  have z0 : ∀ R, nI (R % 8) = 0 ↔ R % 8 = 0 := fun R => eq (R % 8) 0 (by omega) (by omega)
  have z1 : ∀ R, nI (R % 8) = 1 ↔ R % 8 = 1 := fun R => eq (R % 8) 1 (by omega) (by omega)
  have q20 : ∀ R, R < 2147483648 → 1 + (nI R / 1024 - nI R / 1024 / 20 * 20) = nI (1 + R / 1024 % 20) := fun R hR => by
    have : nI R / 1024 = nI (R / 1024) := nI_div (b := 1024) hR (by decide) (by decide)
    have t : nI (R / 1024) - nI (R / 1024) / 20 * 20 = nI (R / 1024 % 20) := nI_mod (b := 20) (by omega) (by decide) (by decide)
    rw [this, t]; exact nI_add 1 _
  have q500 : ∀ R, R < 2147483648 → 1 + (nI R / 8 - nI R / 8 / 500 * 500) = nI (1 + R / 8 % 500) := fun R hR => by
    have : nI R / 8 = nI (R / 8) := nI_div (b := 8) hR (by decide) (by decide)
    have t : nI (R / 8) - nI (R / 8) / 500 * 500 = nI (R / 8 % 500) := nI_mod (b := 500) (by omega) (by decide) (by decide)
    rw [this, t]; exact nI_add 1 _
  have q121 : ∀ R, R < 2147483648 → nI R / 8 - nI R / 8 / 121 * 121 = nI (R / 8 % 121) := fun R hR => by
    have : nI R / 8 = nI (R / 8) := nI_div (b := 8) hR (by decide) (by decide)
    rw [this]; exact nI_mod (b := 121) (by omega) (by decide) (by decide)
  generalize hR : 10000 * (simN nx rr n (K.1, 0, x)).2.1 + (simN nx rr n (K.1, 0, x)).1 5 = r at k
  refine s_copyFrom s (by decide) (fun M1 s1 f1 => ?_)
  refine ⟨fun w a b M' => ∃ i, i ≤ n ∧ w = nI i ∧ a = (simN nx rr i (h, 0, x)).2.1 ∧ b = (simN nx rr i (h, 0, x)).2.2 ∧ St M' 1 (simN nx rr i (h, 0, x)).1 ∧ FrM M M' 1, fun w _ _ _ => 100 - w.toNatClampNeg, ⟨0, Nat.zero_le _, rfl, rfl, rfl, s1, f1.M⟩, ?_⟩
  rintro w a b M' ⟨i, hi, rfl, rfl, rfl, s2, f2⟩
  rw [nI_leI (by omega) (by omega)]
  refine ⟨fun c => ?_, fun c => ?_⟩
  · have : i = n := by omega
    subst this
    obtain ⟨E1, E2⟩ := PEq_simN (nx := nx) (rr := rr) i (s := (h, 0, x)) (t := (K.1, 0, x)) v e rfl
    rw [s2.dir, E1.lo (by decide), E2, hR]
    exact k _ (R.trial f2)
  · have vi := Val_simN (nx := nx) (rr := rr) i (s := (h, 0, x)) vh
    have ns : simN nx rr (i + 1) (h, 0, x) = simS nx rr (simN nx rr i (h, 0, x)) := rfl
    have lt := hlt (nx (simN nx rr i (h, 0, x)).2.2)
    rw [hnx, hrr, m8 _ lt, z0, z1, q20 _ lt, q500 _ lt, q121 _ lt]
    have fin : ∀ t M3, t = simG (simN nx rr i (h, 0, x)).1 (rr (nx (simN nx rr i (h, 0, x)).2.2)) → St M3 1 t → FrM M M3 1 → wp_X1_begin 1 M3 (fun M21 => wp_X1_turns 1 (nI (1 + rr (nx (simN nx rr i (h, 0, x)).2.2) / 1024 % 20)) M21 (fun r27 M26 => ((∃ i', i' ≤ n ∧ nI i + 1 = nI i' ∧ (simN nx rr i (h, 0, x)).2.1 + r27 = (simN nx rr i' (h, 0, x)).2.1 ∧ nx (simN nx rr i (h, 0, x)).2.2 = (simN nx rr i' (h, 0, x)).2.2 ∧ St M26 1 (simN nx rr i' (h, 0, x)).1 ∧ FrM M M26 1) ∧ 100 - (nI i + 1).toNatClampNeg < 100 - (nI i).toNatClampNeg))) := by
      intro t M3 ht st f3
      have vt : Val t := by rw [ht]; exact Val_simG vi _
      refine s_beginM (by decide) st vt (fun M4 s4 m4 f4 => s_turns (by decide) (by omega) s4 vt m4 (fun M5 s5 m5 f5 => ⟨⟨i + 1, by omega, nI_1 i, ?_, rfl, ?_, (f3.trans f4).trans f5⟩, mu_lt (by omega) (by decide)⟩))
      · rw [ns, ht]; rfl
      · rw [ns]
        rw [ht] at s5
        exact s5
    refine ⟨fun c1 => ⟨fun c2 => ?_, fun c2 => ?_⟩, fun c1 => ?_⟩
    · exact fin _ _ (by unfold simG; rw [if_neg c1, if_neg c2]) s2 f2
    · exact s_gain s2 (fun M3 s3 f3 => fin _ _ (by unfold simG; rw [if_neg c1, if_pos c2]) s3 (f2.trans f3.M))
    · exact s_aside s2 (fun M3 s3 f3 => fin _ _ (by unfold simG; rw [if_pos c1]) s3 (f2.trans f3.M))
theorem t_simA {K : KS} {x : Int64} {y : Int32} (h : ¬ (1 ≤ y.toInt ∧ y.toInt ≤ 60)) : Does (wp_L_trySimulate x y) K (-1002) K := by
  intro M Q R k
  simp only [wp_L_trySimulate, wp_X4_simulate, forall_eq]
  rw [i32_lt, i32_le, i1, d60']
  exact ⟨fun c => ⟨fun _ => k _ R, trivial⟩, fun c => ⟨fun c2 => absurd ⟨by omega, c2⟩ h, fun c2 => ⟨fun _ => k _ R, trivial⟩⟩⟩

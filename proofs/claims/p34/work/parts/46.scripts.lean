/-! scripts -/
theorem nI_to64 {n : Nat} (h : n < 2147483648) : (nI n).toInt64 = lI n := by
  rw [i64_eq, i64_of32, nI_toInt h, lI_toInt (by omega)]
theorem lI_add {a b : Nat} (h : a + b < 9223372036854775808) : lI a + lI b = lI (a + b) := by
  rw [i64_eq, i64_add (by rw [lI_toInt (by omega), lI_toInt (by omega)]; omega) (by rw [lI_toInt (by omega), lI_toInt (by omega)]; omega), lI_toInt (by omega), lI_toInt (by omega), lI_toInt h]
  omega
theorem grp1 {X : Nat} (h : X < 100000) : grp 1 X 0 = X := by unfold grp; omega
/-- a script of one command -/
theorem t_one {K : KS} {y : Int64} (X : Nat) (hy : y = lI X) (hX : X < 100000) (ok : (doC K.1 X).2 = true) : Does (wp_L_tryScript 1 y) K (-9) K := by
  have D := t_script (K := K) (x := 1) (y := y) 1 X rfl (by decide) hy (by omega)
  have : runF (grp 1 X) 1 0 K.1 = -9 := by
    show (if (doC K.1 (grp 1 X 0)).2 = true then -9 else nI 0) = -9
    rw [grp1 hX, if_pos ok]
  rw [this] at D
  exact D
theorem t_oneF {K : KS} {y : Int64} (X : Nat) (hy : y = lI X) (hX : X < 100000) (no : (doC K.1 X).2 = false) : Does (wp_L_tryScript 1 y) K 0 K := by
  have D := t_script (K := K) (x := 1) (y := y) 1 X rfl (by decide) hy (by omega)
  have : runF (grp 1 X) 1 0 K.1 = 0 := by
    show (if (doC K.1 (grp 1 X 0)).2 = true then -9 else nI 0) = 0
    rw [grp1 hX, if_neg (by rw [no]; decide)]; rfl
  rw [this] at D
  exact D
/-- a script of two commands -/
theorem t_two {K : KS} {y : Int64} (A B : Nat) (hy : y = lI (100000 * A + B)) (hA : A < 100000) (hB : B < 100000) (ok1 : (doC K.1 A).2 = true) (ok2 : (doC (doC K.1 A).1 B).2 = true) : Does (wp_L_tryScript 2 y) K (-9) K := by
  have D := t_script (K := K) (x := 2) (y := y) 2 (100000 * A + B) rfl (by decide) hy (by omega)
  have g0 : grp 2 (100000 * A + B) 0 = A := by unfold grp; omega
  have g1 : grp 2 (100000 * A + B) 1 = B := by unfold grp; omega
  have : runF (grp 2 (100000 * A + B)) 2 0 K.1 = -9 := by
    show (if (doC K.1 (grp 2 (100000 * A + B) 0)).2 = true then (if (doC (doC K.1 (grp 2 (100000 * A + B) 0)).1 (grp 2 (100000 * A + B) 1)).2 = true then -9 else nI 1) else nI 0) = -9
    rw [g0, g1, if_pos ok1, if_pos ok2]
  rw [this] at D
  exact D
theorem ifB_2 {b : Bool} {p g : Page} : (ifB b p g).2 = b := by unfold ifB; cases b <;> rfl
theorem ifB_1 {b : Bool} {p g : Page} (h : b = true) : (ifB b p g).1 = p := by unfold ifB; rw [h]; rfl
theorem doC_eq {g : Page} {n : Nat} (a b c : Nat) (ha : n / 10000 = a) (hb : n / 1000 % 10 = b) (hc : n % 1000 = c) : doC g n = doF g a b c := by
  unfold doC; rw [ha, hb, hc]
theorem do6 {g : Page} {c : Nat} : (doF g 6 0 c).2 = decide (standF g = nI c) := by
  show (ifB (decide (0 = 0) && decide (standF g = nI c)) g g).2 = _
  rw [ifB_2]; simp
theorem do7 {g : Page} {b c : Nat} : (doF g 7 b c).2 = decide (¬ g 7 < nI (1000 * b + c)) := by
  show (ifB (decide (¬ g 7 < nI (1000 * b + c))) g g).2 = _
  rw [ifB_2]
theorem do8 {g : Page} {c : Nat} : (doF g 8 0 c).2 = decide (g 5 / 60 = nI c) := by
  show (ifB (decide (0 = 0) && decide (g 5 / 60 = nI c)) g g).2 = _
  rw [ifB_2]; simp
theorem do9 {g : Page} {c : Nat} : (doF g 9 0 c).2 = decide (g 10 = nI c) := by
  show (ifB (decide (0 = 0) && decide (g 10 = nI c)) g g).2 = _
  rw [ifB_2]; simp
theorem raise_stand {g : Page} (v : Val g) : standF (raiseF g) = nI (pn g) := by
  have hp := pn_le v
  have e9 : pn (raiseF g) = pn g := by unfold pn; rw [show raiseF g 9 = g 9 from by unfold raiseF; rw [if_neg (by omega)]]
  have : ∀ n, n ≤ pn g → sumGo (raiseF g) n = nI n := by
    intro n
    induction n with
    | zero => intro _; rfl
    | succ n ih =>
      intro hn
      show sumGo (raiseF g) n + raiseF g (13 + 2 * n) = _
      rw [ih (by omega), show raiseF g (13 + 2 * n) = 1 from by unfold raiseF; rw [if_pos (by omega)], nI_1]
  unfold standF
  rw [e9, this _ (Nat.le_refl _)]
theorem p_scripts {K : KS} (v : Val K.1) (x : Int32) : Does (wp_L_scripts x) K 1 K := by
  intro M Q R k
  obtain ⟨v0, v1, -, -, -, v5, v6, v7, v9, v10, -⟩ := id v
  have sr := stand_rng v
  have hp := pn_le v
  have e10 : aboutF K.1 10 = nI (standF K.1).toInt.toNat := nI_of_toInt (x := standF K.1) sr.1
  have e7 : aboutF K.1 7 = nI (K.1 7).toInt.toNat := nI_of_toInt (x := K.1 7) v7.1
  have e5 : aboutF K.1 5 = nI (K.1 5).toInt.toNat := nI_of_toInt (x := K.1 5) v5.1
  have e11 : aboutF K.1 11 = nI (K.1 10).toInt.toNat := nI_of_toInt (x := K.1 10) v10.1
  have hst : standF K.1 = nI (standF K.1).toInt.toNat := e10
  have hhi : K.1 7 = nI (K.1 7).toInt.toNat := e7
  have hdi : K.1 5 = nI (K.1 5).toInt.toNat := e5
  have hht : K.1 10 = nI (K.1 10).toInt.toNat := e11
  have bS : (standF K.1).toInt.toNat ≤ 40 := by omega
  have bH : (K.1 7).toInt.toNat ≤ 9999 := by omega
  have bD : (K.1 5).toInt.toNat < 10800 := by omega
  have bT : (K.1 10).toInt.toNat ≤ 20 := by omega
  simp only [wp_L_scripts, forall_eq]
  refine t_about 10 rfl (by decide) _ _ R (fun M R => ?_)
  refine t_about 7 rfl (by decide) _ _ R (fun M R => ?_)
  refine t_about 5 rfl (by decide) _ _ R (fun M R => ?_)
  refine t_about 11 rfl (by decide) _ _ R (fun M R => ?_)
  rw [e10, e7, e5, e11]
  generalize (standF K.1).toInt.toNat = S at hst bS
  generalize (K.1 7).toInt.toNat = H at hhi bH
  generalize (K.1 5).toInt.toNat = D at hdi bD
  generalize (K.1 10).toInt.toNat = T at hht bT
  have w60 : nI D / 60 = nI (D / 60) := nI_div (b := 60) (by omega) (by decide) (by decide)
  have w1 : nI (D / 60) + 1 - (nI (D / 60) + 1) / 180 * 180 = nI ((D / 60 + 1) % 180) := by
    rw [nI_1]; exact nI_mod (b := 180) (by omega) (by decide) (by decide)
  rw [w60, w1, nI_to64 (by omega), nI_to64 (by omega), nI_to64 (by omega), nI_to64 (by omega), nI_to64 (by omega)]
  obtain ⟨r, r0, Ds⟩ := t_sim v (x.toInt64 * 139) (y := 9) 9 rfl (by decide)
  refine Ds _ _ R (fun M R => ?_)
  have ad : ∀ (z : Int64) (a b : Nat), a < 10000000000 → b < 100000 → z = lI a → z + lI b = lI (a + b) := fun z a b ha hb hz => by rw [hz]; exact lI_add (by omega)
  have nI_inj : ∀ a b : Nat, a < 100000 → b < 100000 → nI a = nI b → a = b := fun a b ha hb h => by
    have := congrArg Int32.toInt h
    rw [nI_toInt (by omega), nI_toInt (by omega)] at this
    omega
  rw [ad 60000 60000 S (by decide) (by omega) rfl, ad 60001 60001 S (by decide) (by omega) rfl, ad 70000 70000 H (by decide) (by omega) rfl, ad 70001 70001 H (by decide) (by omega) rfl, ad 80000 80000 (D / 60) (by decide) (by omega) rfl, ad 80000 80000 ((D / 60 + 1) % 180) (by decide) (by omega) rfl, ad 90000 90000 T (by decide) (by omega) rfl, ad 90001 90001 T (by decide) (by omega) rfl, ad 4006080000 4006080000 ((D / 60 + 1) % 180) (by decide) (by omega) rfl]
  refine (t_one (60000 + S) rfl (by omega) (by rw [doC_eq 6 0 S (by omega) (by omega) (by omega), do6]; exact decide_eq_true hst)).eq R (fun M R => ?_)
  refine (t_oneF (60001 + S) rfl (by omega) (by rw [doC_eq 6 0 (S + 1) (by omega) (by omega) (by omega), do6]; exact decide_eq_false (fun z => by rw [hst] at z; have := nI_inj _ _ (by omega) (by omega) z; omega))).eq R (fun M R => ?_)
  refine (t_one (70000 + H) rfl (by omega) (by rw [doC_eq 7 (H / 1000) (H % 1000) (by omega) (by omega) (by omega), do7]; exact decide_eq_true (by rw [hhi, nI_ltI (by omega) (by omega)]; omega))).eq R (fun M R => ?_)
  refine ⟨fun M => Rep M K, ⟨fun _ => R, fun c => ?_⟩, fun M R => ?_⟩
  · have : H ≠ 9999 := fun z => c (by rw [z]; rfl)
    exact (t_oneF (70001 + H) rfl (by omega) (by rw [doC_eq 7 ((H + 1) / 1000) ((H + 1) % 1000) (by omega) (by omega) (by omega), do7]; exact decide_eq_false (by rw [hhi, nI_ltI (by omega) (by omega)]; omega))).eq R (fun M R => R)
  refine (t_one (80000 + D / 60) rfl (by omega) (by rw [doC_eq 8 0 (D / 60) (by omega) (by omega) (by omega), do8]; exact decide_eq_true (by rw [hdi]; exact w60))).eq R (fun M R => ?_)
  refine (t_oneF (80000 + (D / 60 + 1) % 180) rfl (by omega) (by rw [doC_eq 8 0 ((D / 60 + 1) % 180) (by omega) (by omega) (by omega), do8]; exact decide_eq_false (fun z => by rw [hdi, w60] at z; have := nI_inj _ _ (by omega) (by omega) z; omega))).eq R (fun M R => ?_)
  refine (t_one (90000 + T) rfl (by omega) (by rw [doC_eq 9 0 T (by omega) (by omega) (by omega), do9]; exact decide_eq_true hht)).eq R (fun M R => ?_)
  refine (t_oneF (90001 + T) rfl (by omega) (by rw [doC_eq 9 0 (T + 1) (by omega) (by omega) (by omega), do9]; exact decide_eq_false (fun z => by rw [hht] at z; have := nI_inj _ _ (by omega) (by omega) z; omega))).eq R (fun M R => ?_)
  refine t_about 9 rfl (by decide) _ _ R (fun M R => ?_)
  rw [ab9 v, nI_to64 (by omega), ad 5000060000 5000060000 (pn K.1) (by decide) (by omega) rfl]
  refine (t_two 50000 (60000 + pn K.1) (by rw [show 5000060000 + pn K.1 = 100000 * 50000 + (60000 + pn K.1) by omega]) (by decide) (by omega) ?_ ?_).eq R (fun M R => ?_)
  · rfl
  · have e5 : (doC K.1 50000).1 = raiseF K.1 := rfl
    rw [e5, doC_eq 6 0 (pn K.1) (by omega) (by omega) (by omega), do6]
    exact decide_eq_true (raise_stand v)
  refine (t_oneF 10000 rfl (by decide) rfl).eq R (fun M R => ?_)
  refine (t_oneF 10501 rfl (by decide) rfl).eq R (fun M R => ?_)
  refine (t_oneF 20091 rfl (by decide) rfl).eq R (fun M R => ?_)
  refine (t_oneF 21059 rfl (by decide) rfl).eq R (fun M R => ?_)
  refine (t_oneF 23000 rfl (by decide) rfl).eq R (fun M R => ?_)
  refine (t_one 23001 rfl (by decide) rfl).eq R (fun M R => ?_)
  refine (t_oneF 30000 rfl (by decide) rfl).eq R (fun M R => ?_)
  refine (t_oneF 40601 rfl (by decide) rfl).eq R (fun M R => ?_)
  refine (t_oneF 42000 rfl (by decide) rfl).eq R (fun M R => ?_)
  refine (t_two 40060 (80000 + (D / 60 + 1) % 180) (by rw [show 4006080000 + (D / 60 + 1) % 180 = 100000 * 40060 + (80000 + (D / 60 + 1) % 180) by omega]) (by decide) (by omega) rfl ?_).eq R (fun M R => ?_)
  · have e4 : (doC K.1 40060).1 = nudgeF K.1 (nI 60) := rfl
    rw [e4, doC_eq 8 0 ((D / 60 + 1) % 180) (by omega) (by omega) (by omega), do8]
    have e5 : nudgeF K.1 (nI 60) 5 = aroundF (K.1 5 + nI 60) := rfl
    have ea : aroundF (nI D + nI 60) = nI ((D + 60) % 10800) := by
      rw [i32_eq, aroundF_toInt, nI_addn, nI_toInt (by omega), nI_toInt (by omega)]; omega
    refine decide_eq_true ?_
    rw [e5, hdi, ea]
    have : nI ((D + 60) % 10800) / 60 = nI ((D + 60) % 10800 / 60) := nI_div (b := 60) (by omega) (by decide) (by decide)
    rw [this]
    congr 1
    omega
  refine (t_oneF 50001 rfl (by decide) rfl).eq R (fun M R => ?_)
  refine (t_oneF 0 rfl (by decide) rfl).eq R (fun M R => ?_)
  refine ⟨fun z => absurd z (by rw [s_lt0]; omega), fun _ => ?_⟩
  refine Ds _ _ R (fun M R => ?_)
  exact ⟨fun z => absurd rfl z, fun _ => k _ R⟩

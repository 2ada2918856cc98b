/-! alike -/
theorem pair_eq {wp : Mem → (Int32 → Mem → Prop) → Prop} {K : KS} {c : Int32} (D : Does wp K c K) {M : Mem} {P : Int32 → Int32 → Mem → Prop} (R : Rep2 M K K) (k : ∀ M', Rep2 M' K K → P c c M') : wp (mb 0 M) (fun r M1 => ∀ M3 : Mem, M3 = mg 0 M M1 → wp (mb 1 M3) (fun r2 M5 => ∀ M7 : Mem, M7 = mg 1 M3 M5 → ((¬ r = r2 → False) ∧ (r = r2 → P r r2 M7)))) :=
  D.p R (fun _ R => D.q R (fun _ R => ⟨fun z => z rfl, fun _ => k _ R⟩))
theorem t_readAny {K : KS} (v : Val K.1) (a w : Nat) (ha : a < 1000) (hw : w ≤ 2) : ∃ r, Does (wp_L_tryReading (nI a) (nI w)) K r K := by
  by_cases c : a < rn K.1
  · exact ⟨_, t_reading a w rfl c rfl hw⟩
  · exact ⟨_, t_readingI v (by rw [nI_toInt (by omega)]; omega)⟩
theorem p_alike {K : KS} (v : Val K.1) (M : Mem) (Q : Int32 → Mem → Prop) (R : Rep2 M K K) (k : ∀ M', Rep2 M' K K → Q 1 M') : wp_L_alike M Q := by
  have hp := pn_le v
  unfold wp_L_alike
  refine ⟨fun w M => Rep2 M K K ∧ ∃ n, n ≤ 13 ∧ w = nI n, fun w _ => 13 - w.toNatClampNeg, by show 13 - (0 : Int32).toNatClampNeg < _; decide, ⟨R, 0, by decide, rfl⟩, ?_⟩
  rintro w M ⟨R, n, hn, rfl⟩
  rw [show (13 : Int32) = nI 13 from rfl, nI_leI (by omega) (by omega)]
  refine ⟨fun c => ?_, fun c => ?_⟩
  · refine ⟨fun w M => Rep2 M K K ∧ ∃ n, n ≤ pn K.1 ∧ w = nI n, fun w _ => 41 - w.toNatClampNeg, by show 41 - (0 : Int32).toNatClampNeg < _; decide, ⟨R, 0, Nat.zero_le _, rfl⟩, ?_⟩
    rintro w M ⟨R, n, hn, rfl⟩
    refine (t_about 9 rfl (by decide)).p R (fun M R => ?_)
    rw [ab9 v, nI_leI (by omega) (by omega)]
    refine ⟨fun c => ?_, fun c => ?_⟩
    · refine ⟨fun w M => Rep2 M K K ∧ ∃ n, n ≤ 60 ∧ w = nI n, fun w _ => 61 - w.toNatClampNeg, by show 61 - (0 : Int32).toNatClampNeg < _; decide, ⟨R, 0, Nat.zero_le _, rfl⟩, ?_⟩
      rintro w M ⟨R, n, hn, rfl⟩
      rw [show (60 : Int32) = nI 60 from rfl, nI_leI (by omega) (by omega)]
      refine ⟨fun _ => k _ R, fun c => ?_⟩
      have e3 : nI n / 3 = nI (n / 3) := nI_div (b := 3) (by omega) (by decide) (by decide)
      have e4 : nI n - nI (n / 3) * 3 = nI (n % 3) := by
        have := nI_mod (a := n) (b := 3) (by omega) (by decide) (by decide)
        rw [nI_div (b := 3) (by omega) (by decide) (by decide)] at this
        exact this
      rw [e3, e4]
      intro v1 h1 v2 h2
      subst h1 h2
      refine (t_hit (n / 3) (n % 3) rfl (by omega) rfl (by omega)).p R (fun M R => ?_)
      intro v1 h1 v2 h2
      subst h1 h2
      refine (t_hit (n / 3) (n % 3) rfl (by omega) rfl (by omega)).q R (fun M R => ⟨fun z => absurd rfl z, fun _ => ?_⟩)
      obtain ⟨r, D⟩ := t_readAny v (n / 3) (n % 3) (by omega) (by omega)
      intro v1 h1 v2 h2
      subst h1 h2
      refine D.p R (fun M R => ?_)
      intro v1 h1 v2 h2
      subst h1 h2
      refine D.q R (fun M R => ⟨fun z => absurd rfl z, fun _ => ?_⟩)
      intro v1 h1
      subst h1
      exact ⟨⟨R, n + 1, by omega, nI_1 n⟩, mu_lt (by omega) (by decide)⟩
    · refine pair_eq (t_pin n 0 rfl (by omega) rfl (by decide)) R (fun M R => ?_)
      refine pair_eq (t_pin n 1 rfl (by omega) rfl (by decide)) R (fun M R => ?_)
      refine pair_eq (t_pin n 2 rfl (by omega) rfl (by decide)) R (fun M R => ?_)
      intro v1 h1
      subst h1
      exact ⟨⟨R, n + 1, by omega, nI_1 n⟩, mu_lt (by omega) (by decide)⟩
  · refine pair_eq (t_about n rfl (by omega)) R (fun M R => ?_)
    intro v1 h1
    subst h1
    exact ⟨⟨R, n + 1, by omega, nI_1 n⟩, mu_lt (by omega) (by decide)⟩

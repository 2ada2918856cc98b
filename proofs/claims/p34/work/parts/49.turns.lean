/-! turns -/
theorem sum_rng {g : Page} (v : Val g) : ∀ n, n ≤ pn g → 0 ≤ (sumGo g n).toInt ∧ (sumGo g n).toInt ≤ n := by
  obtain ⟨-, -, -, -, -, -, -, -, v9, -, -, vp, -⟩ := id v
  have hp := pn_le v
  intro n
  induction n with
  | zero => intro _; exact ⟨by show 0 ≤ (0 : Int32).toInt; decide, by show (0 : Int32).toInt ≤ 0; decide⟩
  | succ n ih =>
    intro hn
    obtain ⟨a, b⟩ := ih (by omega)
    show 0 ≤ (sumGo g n + g (13 + 2 * n)).toInt ∧ (sumGo g n + g (13 + 2 * n)).toInt ≤ ((n + 1 : Nat) : Int)
    rcases (vp n (by omega)).2.2 with z | z <;> rw [z, i32_add] <;> first | rw [i0]; omega | rw [i1]; omega
theorem sum_succ {g : Page} (v : Val g) {n : Nat} (hn : n < pn g) : (sumGo g (n + 1)).toInt = (sumGo g n).toInt + (g (13 + 2 * n)).toInt := by
  have hp := pn_le v
  obtain ⟨-, -, -, -, -, -, -, -, v9, -, -, vp, -⟩ := id v
  obtain ⟨a, b⟩ := sum_rng v n (by omega)
  show (sumGo g n + g (13 + 2 * n)).toInt = _
  rcases (vp n hn).2.2 with z | z <;> rw [z, i32_add] <;> first | (rw [i0]; omega) | (rw [i1]; omega)
theorem rem2 (a : Int32) : a - a / 10800 * 10800 + 10800 - (a - a / 10800 * 10800 + 10800) / 10800 * 10800 = aroundF a := by
  have h := around_rem a
  have h4 := Int.tmod_lt_of_pos a.toInt (b := 10800) (by decide)
  have h5 : -10800 < a.toInt.tmod 10800 := Int.lt_tmod_of_pos a.toInt (by decide)
  have h6 := Int.tmod_add_mul_tdiv a.toInt 10800
  have e1 : (a - a / 10800 * 10800 + 10800).toInt = a.toInt.tmod 10800 + 10800 := by
    rw [i32_add (by rw [h, d108']; omega) (by rw [h, d108']; omega), h, d108']
  rw [i32_eq, around_rem, e1, Int.tmod_eq_emod_of_nonneg (by omega), aroundF_toInt]
  omega
theorem remP {a : Int32} (h : 0 ≤ a.toInt) : (a - a / 10800 * 10800).toInt = a.toInt % 10800 := by
  rw [around_rem, Int.tmod_eq_emod_of_nonneg h]
theorem floor_up {Z U : Int} (hU : 0 < U) : -((U - 1 - Z) / U) = Z / U := by
  have h := Int.emod_add_mul_ediv Z U
  have r1 := Int.emod_nonneg Z (show U ≠ 0 by omega)
  have r2 := Int.emod_lt_of_pos Z hU
  generalize Z / U = q at h
  generalize Z % U = r at h r1 r2
  have e : U - 1 - Z = (U - 1 - r) + U * (-q) := by rw [Int.mul_neg]; omega
  rw [e, Int.add_mul_ediv_left _ _ (by omega), Int.ediv_eq_zero_of_lt (by omega) (by omega)]
  omega
theorem p_turns {K : KS} (v : Val K.1) (x : Nat) (hx : x < 2147483648) (M : Mem) (Q : Int32 → Mem → Prop) (R : Rep M K) (k : ∀ M' p H', Rep M' (p, H', K.2.2) → Q 1 M') : wp_L_turns (nI x) M Q := by
  have e25 : nI x - nI x / 25 * 25 = nI (x % 25) := nI_mod (b := 25) hx (by decide) (by decide)
  have em : 1 + nI (x % 25) = nI (1 + x % 25) := nI_addn 1 _
  have hm : 1 ≤ 1 + x % 25 ∧ 1 + x % 25 ≤ 25 := by omega
  simp only [wp_L_turns, forall_eq]
  rw [e25, em]
  generalize 1 + x % 25 = m at hm
  refine t_ahead m 0 rfl (by omega) rfl (by decide) _ _ R (fun M R => ?_)
  refine t_ahead m 1 rfl (by omega) rfl (by decide) _ _ R (fun M R => ?_)
  refine t_ahead m 2 rfl (by omega) rfl (by decide) _ _ R (fun M R => ?_)
  refine t_ahead 0 0 rfl (by decide) rfl (by decide) _ _ R (fun M R => ?_)
  refine t_about 5 rfl (by decide) _ _ R (fun M R => ⟨fun z => absurd rfl z, fun _ => ?_⟩)
  refine t_ahead 0 2 rfl (by decide) rfl (by decide) _ _ R (fun M R => ⟨fun z => absurd rfl z, fun _ => ?_⟩)
  have a2 : aheadR K.1 m 2 = (turnN m (K.1, 0, -9)).2.1 := rfl
  rw [a2]
  refine ⟨fun a b M => ∃ t H', t ≤ m ∧ a = nI t ∧ b = (turnN m (K.1, 0, -9)).2.1 - (turnN t (K.1, 0, -9)).2.1 ∧ Rep M ((turnN t (K.1, 0, -9)).1, H', K.2.2), fun a _ _ => 26 - a.toNatClampNeg, by show 26 - (0 : Int32).toNatClampNeg < 27; decide, ⟨0, K.2.1, Nat.zero_le _, rfl, (Int32.sub_zero _).symm, R⟩, ?_⟩
  rintro w18 w19 M ⟨t, H', ht, rfl, rfl, R⟩
  rw [nI_leI (by omega) (by omega)]
  refine ⟨fun c => ?_, fun c => ?_⟩
  · have : t = m := by omega
    subst this
    refine t_about 5 rfl (by decide) _ _ R (fun M R => ⟨fun z => absurd rfl z, fun _ => ?_⟩)
    refine t_about 7 rfl (by decide) _ _ R (fun M R => ⟨fun z => absurd rfl z, fun _ => ?_⟩)
    exact ⟨fun z => absurd (Int32.sub_self _) z, fun _ => k _ _ _ R⟩
  -- one turn
  have vp := Val_turnN t (s := (K.1, 0, -9)) v
  have T1 : (turnN (t + 1) (K.1, 0, -9)).1 = (turnF (turnN t (K.1, 0, -9)).1 (-9)).1 := (turnF_f _ _ _).1
  have T2 : (turnN (t + 1) (K.1, 0, -9)).2.1 = (turnN t (K.1, 0, -9)).2.1 + (turnF (turnN t (K.1, 0, -9)).1 (-9)).2.1 := by
    show (turnN t (K.1, 0, -9)).2.1 + (turnF (turnN t (K.1, 0, -9)).1 (turnN t (K.1, 0, -9)).2.2).2.1 = _
    rw [(turnF_f _ (turnN t (K.1, 0, -9)).2.2 (-9)).2]
  have fin : ∀ M H', Rep M ((turnF (turnN t (K.1, 0, -9)).1 (-9)).1, H', K.2.2) → ∃ t' H', t' ≤ m ∧ nI t + 1 = nI t' ∧ (turnN m (K.1, 0, -9)).2.1 - (turnN t (K.1, 0, -9)).2.1 - (turnF (turnN t (K.1, 0, -9)).1 (-9)).2.1 = (turnN m (K.1, 0, -9)).2.1 - (turnN t' (K.1, 0, -9)).2.1 ∧ Rep M ((turnN t' (K.1, 0, -9)).1, H', K.2.2) := fun M H' R => by
    refine ⟨t + 1, H', by omega, nI_1 t, ?_, by rw [T1]; exact R⟩
    rw [T2, Int32.sub_sub]
  clear T1 T2
  generalize (turnN m (K.1, 0, -9)).2.1 - (turnN t (K.1, 0, -9)).2.1 = w19 at fin
  have mul' : 26 - (nI t + 1).toNatClampNeg < 26 - (nI t).toNatClampNeg := mu_lt (by omega) (by decide)
  generalize hp : (turnN t (K.1, 0, -9)).1 = p at R vp fin
  obtain ⟨cn, h1, h2, h3, h4, h5, h6, h7, h8, h9, h10, -⟩ := turn_all vp (-9)
  have vq := Val_turn vp (-9)
  have D := t_swing (K := (p, H', K.2.2)) (x := 1) 1 rfl (by decide)
  have d1 : (turnN 1 (p, 0, -9)).1 = (turnF p (-9)).1 := rfl
  have d2 : (turnN 1 (p, 0, -9)).2.1 = nI cn := by
    show 0 + (turnF p (-9)).2.1 = _
    rw [h2, Int32.zero_add]
  dsimp only at D
  rw [d1, d2] at D
  rw [h2] at fin
  generalize (turnF p (-9)).1 = q at h3 h4 h5 h6 h7 h8 h9 h10 vq D fin
  obtain ⟨v0, v1, v2, v3, v4, v5, v6, v7, -, -, -, vpn, -⟩ := id vp
  have hpn := pn_le vp
  have epn : pn q = pn p := by unfold pn; rw [h5 9 (by unfold Still; omega)]
  obtain ⟨-, e1000, w1, w2, e900⟩ := way_val v0 v1 v6
  obtain ⟨sb1, sb2⟩ := sinF_bound v0.1 v0.2
  refine t_about 8 rfl (by decide) _ _ R (fun M R => ?_)
  refine t_about 5 rfl (by decide) _ _ R (fun M R => ?_)
  refine t_about 6 rfl (by decide) _ _ R (fun M R => ?_)
  refine t_about 7 rfl (by decide) _ _ R (fun M R => ?_)
  refine t_about 10 rfl (by decide) _ _ R (fun M R => ?_)
  refine t_about 1 rfl (by decide) _ _ R (fun M R => ?_)
  dsimp only
  have b8 : aboutF p 8 = p 8 := rfl
  have b5 : aboutF p 5 = p 5 := rfl
  have b6 : aboutF p 6 = p 6 := rfl
  have b7 : aboutF p 7 = p 7 := rfl
  have b10 : aboutF p 10 = standF p := rfl
  have b1 : aboutF p 1 = p 1 := rfl
  rw [b8, b5, b6, b7, b10, b1]
  have z7 : p 7 = 0 ↔ (p 7).toInt = 0 := by rw [i32_eq, i0]
  refine ⟨fun z M => z.toInt = (if 0 < (p 7).toInt then 900 * (sinF (p 0)).toInt else 0) ∧ Rep M (p, H', K.2.2), ⟨fun c7 => ?_, fun c7 => ⟨by rw [if_neg (by rw [z7] at c7; omega)]; rfl, R⟩⟩, ?_⟩
  · refine t_about 0 rfl (by decide) _ _ R (fun M R => ?_)
    refine t_sine v0 _ _ R (fun M R => ⟨?_, R⟩)
    rw [if_pos (by rw [z7] at c7; omega)]
    exact e900
  rintro w45 M ⟨hw, R⟩
  -- the way
  have hU : 0 < 1000 * (p 1).toInt := by omega
  have U2 : 1000 * (p 1).toInt ≤ 900000 := by omega
  have hZ : (p 6 + w45).toInt = (p 6).toInt + w45.toInt := by
    refine i32_add ?_ ?_ <;> rw [hw] <;> split <;> omega
  have nU : ¬ 1000 * p 1 = 0 := fun z => by
    have := congrArg Int32.toInt z
    rw [e1000, i0] at this
    omega
  have wW : wayT p = ((p 6).toInt + w45.toInt) / (1000 * (p 1).toInt) := by
    unfold wayT wayF
    rw [hw]
    by_cases c7 : 0 < (p 7).toInt
    · rw [if_pos c7, if_pos c7]
    · rw [if_neg c7, if_neg c7, Int.add_zero, Int.ediv_eq_zero_of_lt v6.1 v6.2]
  have wb : -15 ≤ wayT p ∧ wayT p ≤ 15 := by unfold wayT; split <;> omega
  have zr : -900000 ≤ (p 6).toInt + w45.toInt ∧ (p 6).toInt + w45.toInt ≤ 1800000 := by rw [hw]; split <;> omega
  have h4' : (q 6).toInt = (p 6).toInt + w45.toInt - wayT p * (1000 * (p 1).toInt) := by rw [h4, hw]
  generalize hZ2 : (p 6).toInt + w45.toInt = Z at hZ wW zr h4'
  generalize hUg : 1000 * (p 1).toInt = U at hU U2 wW e1000 h4'
  generalize hWg : wayT p = W at wW wb h3 h4' h8
  have uW : -13500000 ≤ W * U ∧ W * U ≤ 13500000 := by
    have a := Int.mul_le_mul_of_nonneg_right wb.1 (show (0 : Int) ≤ U by omega)
    have b := Int.mul_le_mul_of_nonneg_right wb.2 (show (0 : Int) ≤ U by omega)
    omega
  refine ⟨fun z => z.toInt = W, ⟨fun cz => ⟨nU, ?_⟩, fun cz => ⟨nU, ?_⟩⟩, ?_⟩
  · rw [s_lt0, hZ] at cz
    have a1 : (1000 * p 1 - 1).toInt = U - 1 := by rw [i32_sub (by rw [e1000, i1]; omega) (by rw [e1000, i1]; omega), e1000, i1]
    have a2 : (1000 * p 1 - 1 - (p 6 + w45)).toInt = U - 1 - Z := by rw [i32_sub (by rw [a1, hZ]; omega) (by rw [a1, hZ]; omega), a1, hZ]
    have a3 : ((1000 * p 1 - 1 - (p 6 + w45)) / (1000 * p 1)).toInt = (U - 1 - Z) / U := by
      rw [i32_divp _ (by rw [e1000]; omega) (by rw [a2]; omega), a2, e1000]
    have a4 := floor_up (Z := Z) hU
    show (-((1000 * p 1 - 1 - (p 6 + w45)) / (1000 * p 1))).toInt = W
    rw [i32_neg (by rw [a3]; omega), a3, a4, wW]
  · rw [s_lt0, hZ] at cz
    show ((p 6 + w45) / (1000 * p 1)).toInt = W
    rw [i32_divp _ (by rw [e1000]; omega) (by rw [hZ]; omega), hZ, e1000, wW]
  rintro w55 hW
  refine D _ _ R (fun M R => ?_)
  -- pins on the way
  have vqn := vq
  have hst : (standF q).toInt = (standF p).toInt - cn := by
    have r1 := stand_rng vp
    rw [h9, i32_sub (by rw [nI_toInt (by omega)]; omega) (by rw [nI_toInt (by omega)]; omega), nI_toInt (by omega)]
  have hsp : (standF p).toInt = (sumGo p (pn p)).toInt := rfl
  have hsq : (standF q).toInt = (sumGo q (pn p)).toInt := by rw [← epn]; rfl
  refine ⟨fun a b M => ∃ kk d : Nat, kk ≤ pn p ∧ a = nI kk ∧ b = nI d ∧ d ≤ kk ∧ (sumGo p kk).toInt - (sumGo q kk).toInt ≤ d ∧ Rep M (q, push1 p H', K.2.2), fun a _ _ => 41 - a.toNatClampNeg, by show 41 - (0 : Int32).toNatClampNeg < 42; decide, ⟨0, 0, Nat.zero_le _, rfl, rfl, Nat.le_refl _, by show (0 : Int32).toInt - (0 : Int32).toInt ≤ _; decide, R⟩, ?_⟩
  rintro w65 w66 M ⟨kk, d, hkk, rfl, rfl, hdk, hsum, R⟩
  refine t_about 9 rfl (by decide) _ _ R (fun M R => ?_)
  rw [show aboutF (q, push1 p H', K.2.2).1 9 = nI (pn q) from ab9 vq, epn, nI_leI (by omega) (by omega)]
  refine ⟨fun ck => ?_, fun ck => ?_⟩
  · -- all pins are told
    have ek : kk = pn p := by omega
    subst ek
    have dc : cn ≤ d := by omega
    have d50 : (50 : Int32).toInt = 50 := rfl
    have m50 : (50 * nI cn).toInt = 50 * cn := by rw [i32_mul (by rw [d50, nI_toInt (by omega)]; omega) (by rw [d50, nI_toInt (by omega)]; omega), d50, nI_toInt (by omega)]
    have l1 : (p 7 - 50 * nI cn).toInt = (p 7).toInt - 50 * cn := by rw [i32_sub (by rw [m50]; omega) (by rw [m50]; omega), m50]
    refine ⟨fun z => z.toInt = hgt (p 7).toInt cn, ⟨fun cz => ?_, fun cz => ?_⟩, fun w74 hw74 => ?_⟩
    · rw [i32_le, i0, l1] at cz
      show (p 7 - 50 * nI cn).toInt = _
      unfold hgt
      rw [l1, if_pos (by omega)]
    · rw [i32_le, i0, l1] at cz
      show (0 : Int32).toInt = _
      unfold hgt
      rw [i0, if_neg (by omega)]
    have hr : 0 ≤ hgt (p 7).toInt cn ∧ hgt (p 7).toInt cn ≤ 9999 := by unfold hgt; split <;> omega
    refine t_about 2 rfl (by decide) _ _ R (fun M R => ?_)
    have q2 : aboutF (q, push1 p H', K.2.2).1 2 = p 2 := h5 2 (by unfold Still; omega)
    rw [q2]
    have dt : (10000 : Int32).toInt = 10000 := rfl
    have pr : 0 ≤ hgt (p 7).toInt cn * (p 2).toInt ∧ hgt (p 7).toInt cn * (p 2).toInt ≤ 9999 * 99 := ⟨Int.mul_nonneg hr.1 v2.1, Int.mul_le_mul hr.2 v2.2 v2.1 (by decide)⟩
    have m1 : (w74 * p 2).toInt = hgt (p 7).toInt cn * (p 2).toInt := by rw [i32_mul (by rw [hw74]; omega) (by rw [hw74]; omega), hw74]
    have m2 : (w74 * p 2 / 10000).toInt = hgt (p 7).toInt cn * (p 2).toInt / 10000 := by rw [i32_divp _ (by decide) (by rw [m1]; exact pr.1), m1, dt]
    have m3 : (w74 * p 2 / 10000 + 1).toInt = hgt (p 7).toInt cn * (p 2).toInt / 10000 + 1 := by rw [i32_add (by rw [m2, i1]; omega) (by rw [m2, i1]; omega), m2, i1]
    have m4 : (w74 - (w74 * p 2 / 10000 + 1)).toInt = hgt (p 7).toInt cn - (hgt (p 7).toInt cn * (p 2).toInt / 10000 + 1) := by rw [i32_sub (by rw [hw74, m3]; omega) (by rw [hw74, m3]; omega), hw74, m3]
    refine ⟨fun z => z.toInt = (if 0 < hgt (p 7).toInt cn - (hgt (p 7).toInt cn * (p 2).toInt / 10000 + 1) then hgt (p 7).toInt cn - (hgt (p 7).toInt cn * (p 2).toInt / 10000 + 1) else 0), ⟨fun cz => ?_, fun cz => ?_⟩, fun w85 hw85 => ?_⟩
    · rw [i32_le, i0, m4] at cz
      show (w74 - (w74 * p 2 / 10000 + 1)).toInt = _
      rw [m4]; split <;> omega
    · rw [i32_le, i0, m4] at cz
      show (0 : Int32).toInt = _
      rw [i0]; split <;> omega
    refine t_about 4 rfl (by decide) _ _ R (fun M R => ?_)
    have q4 : aboutF (q, push1 p H', K.2.2).1 4 = p 4 := h5 4 (by unfold Still; omega)
    rw [q4]
    have hx85 : 0 ≤ w85.toInt ∧ w85.toInt ≤ 9999 := by rw [hw85]; split <;> omega
    have m5 : (w85 + p 4).toInt = w85.toInt + (p 4).toInt := i32_add (by omega) (by omega)
    refine ⟨fun z => z.toInt = (if 0 < (p 7).toInt then aftH (hgt (p 7).toInt cn) (p 2).toInt (p 4).toInt else 0), ⟨fun cz => ⟨fun c9 => ?_, fun c9 => ?_⟩, fun cz => ?_⟩, fun w91 hw91 => ?_⟩
    · rw [z7] at cz
      rw [i32_le, m5, i9999] at c9
      show (w85 + p 4).toInt = _
      unfold aftH
      rw [m5, if_pos (by omega), ← hw85]
      split <;> omega
    · rw [z7] at cz
      rw [i32_le, m5, i9999] at c9
      show (9999 : Int32).toInt = _
      unfold aftH
      rw [i9999, if_pos (by omega), ← hw85, if_neg (by omega)]
    · rw [z7] at cz
      show (0 : Int32).toInt = _
      rw [i0, if_neg (by omega)]
    refine t_about 8 rfl (by decide) _ _ R (fun M R => ⟨fun z => absurd h6 z, fun _ => ?_⟩)
    refine t_about 5 rfl (by decide) _ _ R (fun M R => ⟨fun z => absurd ?_ z, fun _ => ?_⟩)
    · show q 5 = _
      rw [rem2, i32_eq, h3, aroundF_toInt, i32_add (by omega) (by omega), hW]
    refine t_about 6 rfl (by decide) _ _ R (fun M R => ⟨fun z => absurd ?_ z, fun _ => ?_⟩)
    · show q 6 = _
      have m6 : (w55 * (1000 * p 1)).toInt = W * U := by rw [i32_mul (by rw [hW, e1000]; omega) (by rw [hW, e1000]; omega), hW, e1000]
      rw [i32_eq, h4', i32_sub (by rw [hZ, m6]; omega) (by rw [hZ, m6]; omega), hZ, m6]
    refine t_about 7 rfl (by decide) _ _ R (fun M R => ⟨fun z => absurd ?_ z, fun _ => ?_⟩)
    · show q 7 = _
      rw [i32_eq, h7, hw91]
    refine t_about 10 rfl (by decide) _ _ R (fun M R => ⟨fun z => absurd h9 z, fun _ => ?_⟩)
    have ncI : (nI cn).toInt = cn := nI_toInt (by omega)
    refine ⟨fun z => absurd z (by rw [s_lt0, ncI]; omega), fun _ => ⟨fun z => absurd z (by rw [nI_ltI (by omega) (by omega)]; omega), fun _ => ?_⟩⟩
    refine ⟨fun M => Rep M (q, push1 p H', K.2.2), ⟨fun _ => R, fun cz => ?_⟩, fun M R => ?_⟩
    · have c0 : 0 < cn := by rw [nI_zero (by omega)] at cz; omega
      obtain ⟨g1, g2, g3, g4⟩ := h10 c0
      refine t_about 3 rfl (by decide) _ _ R (fun M R => ⟨fun z => absurd z ?_, fun _ => ?_⟩)
      · show ¬ p 7 < q 3
        rw [h5 3 (by unfold Still; omega), i32_lt]; omega
      have hh : ∀ w, hitR q 0 w = q (92 + 3 * 0 + w) := fun w => by
        unfold hitR
        rw [if_neg]
        show ¬ (q 10).toInt ≤ 0
        omega
      refine t_hit 0 1 rfl (by decide) rfl (by decide) _ _ R (fun M R => ⟨fun z => absurd ?_ z, fun _ => ?_⟩)
      · show hitR q 0 1 = _
        rw [hh]; exact g2
      refine t_hit 0 2 rfl (by decide) rfl (by decide) _ _ R (fun M R => ⟨fun z => absurd ?_ z, fun _ => R⟩)
      show hitR q 0 2 = _
      rw [hh, i32_eq, hw74]; exact g3
    · exact ⟨fin _ _ R, mul'⟩
  · -- one pin more
    have hk : kk < pn p := by omega
    have vpk := vpn kk hk
    refine t_pin kk 0 rfl (by show kk < pn q; omega) rfl (by decide) _ _ R (fun M R => ?_)
    have epl : pinR (q, push1 p H', K.2.2).1 kk 0 = p (12 + 2 * kk) := by
      show q (12 + 2 * kk) = _
      exact h5 _ (by unfold Still; omega)
    rw [epl]
    refine t_pin kk 1 rfl (by show kk < pn q; omega) rfl (by decide) _ _ R (fun M R => ?_)
    have efl : pinR (q, push1 p H', K.2.2).1 kk 1 = q (13 + 2 * kk) := rfl
    rw [efl]
    have a1 : (p (12 + 2 * kk) - p 5 + 10800).toInt = (p (12 + 2 * kk)).toInt - (p 5).toInt + 10800 := by
      have : (p (12 + 2 * kk) - p 5).toInt = (p (12 + 2 * kk)).toInt - (p 5).toInt := i32_sub (by omega) (by omega)
      rw [i32_add (by rw [this, d108']; omega) (by rw [this, d108']; omega), this, d108']
    have a2 : (p (12 + 2 * kk) - p 5 + 10800 - (p (12 + 2 * kk) - p 5 + 10800) / 10800 * 10800).toInt = ((p (12 + 2 * kk)).toInt - (p 5).toInt + 10800) % 10800 := by
      rw [remP (by rw [a1]; omega), a1]
    generalize p (12 + 2 * kk) - p 5 + 10800 - (p (12 + 2 * kk) - p 5 + 10800) / 10800 * 10800 = far at a2
    have key : p (13 + 2 * kk) = 1 → q (13 + 2 * kk) = 0 → (0 < W ∧ 0 < far.toInt ∧ far.toInt ≤ W) ∨ (W < 0 ∧ 0 < far.toInt ∧ 10800 - far.toInt ≤ -W) := fun f1 f0 => by
      rcases h8 kk hk with z | ⟨-, -, i, hi, hpl⟩
      · rw [f1, f0] at z; exact absurd z (by decide)
      · rw [hpl] at a2
        omega
    have far2 : 0 ≤ far.toInt ∧ far.toInt < 10800 := by omega
    have b1 : (10800 - far).toInt = 10800 - far.toInt := by rw [i32_sub (by rw [d108']; omega) (by rw [d108']; omega), d108']
    have b2 : (-w55).toInt = -W := by rw [i32_neg (by omega), hW]
    have nxt : ∀ z : Nat, z ≤ 1 → (p (13 + 2 * kk) = 1 → q (13 + 2 * kk) = 0 → z = 1) → ∀ M, Rep M (q, push1 p H', K.2.2) → (∃ kk' d' : Nat, kk' ≤ pn p ∧ nI kk + 1 = nI kk' ∧ nI d + nI z = nI d' ∧ d' ≤ kk' ∧ (sumGo p kk').toInt - (sumGo q kk').toInt ≤ d' ∧ Rep M (q, push1 p H', K.2.2)) ∧ 41 - (nI kk + 1).toNatClampNeg < 41 - (nI kk).toNatClampNeg := fun z hz hk2 M R => by
      refine ⟨⟨kk + 1, d + z, by omega, nI_1 kk, nI_addn d z, by omega, ?_, R⟩, mu_lt (by omega) (by decide)⟩
      rw [sum_succ vp hk, sum_succ vq (by omega)]
      have q0 := h8 kk hk
      rcases vpk.2.2 with f | f
      · rcases q0 with g | ⟨g, -⟩
        · rw [g]; omega
        · rw [f] at g; exact absurd g (by decide)
      · rcases q0 with g | ⟨-, g, -⟩
        · rw [g]; omega
        · have := hk2 f g
          rw [f, g, i0, i1]; omega
    obtain ⟨J, hJ⟩ : ∃ J : Int32 → Prop, ∀ z, J z ↔ ((z = 0 ∨ z = 1) ∧ (p (13 + 2 * kk) = 1 → q (13 + 2 * kk) = 0 → z = 1)) := ⟨_, fun _ => Iff.rfl⟩
    refine ⟨J, ?_, ?_⟩
    · have no : ¬ ((0 < W ∧ 0 < far.toInt ∧ far.toInt ≤ W) ∨ (W < 0 ∧ 0 < far.toInt ∧ 10800 - far.toInt ≤ -W)) → J 0 := fun h => (hJ 0).mpr ⟨Or.inl rfl, fun f1 f0 => absurd (key f1 f0) h⟩
      have yes : J 1 := (hJ 1).mpr ⟨Or.inr rfl, fun _ _ => rfl⟩
      simp only [i32_le, i32_lt, i0, b1, b2, hW]
      refine ⟨fun f => (hJ 0).mpr ⟨Or.inl rfl, fun _ f0 => absurd f0 f⟩, fun f => ⟨fun c1 => ⟨fun c2 => no (by omega), fun c2 => ⟨fun c3 => no (by omega), fun c3 => ⟨fun c4 => no (by omega), fun c4 => yes⟩⟩⟩, fun c1 => ⟨fun c3 => ⟨fun c2 => no (by omega), fun c2 => ⟨fun c4 => no (by omega), fun c4 => ⟨fun c5 => no (by omega), fun c5 => yes⟩⟩⟩, fun c3 => ⟨fun c4 => yes, fun c4 => ⟨fun c2 => no (by omega), fun c2 => ⟨fun c5 => no (by omega), fun c5 => ⟨fun c6 => no (by omega), fun c6 => yes⟩⟩⟩⟩⟩⟩⟩
    · intro z hz'
      obtain ⟨hz, hz2⟩ := (hJ z).mp hz'
      rcases hz with rfl | rfl
      · exact nxt 0 (by decide) (fun f1 f0 => absurd (hz2 f1 f0) (by decide)) _ R
      · exact nxt 1 (by decide) (fun _ _ => rfl) _ R

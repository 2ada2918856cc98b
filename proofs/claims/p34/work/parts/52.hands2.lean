/-! hands, walked -/
theorem fallR_zero {g : Page} (k : Nat) : fallR g k = 0 ↔ g (13 + 2 * k) = 0 := by
  have e0 : (turnN 0 (g, 0, -9)).1 (13 + 2 * k) = g (13 + 2 * k) := rfl
  rcases falls_spec (g := g) k with ⟨h1, h2⟩ | ⟨i, h1, h2, h3, h4⟩
  · have := h2 0 (by decide)
    rw [e0] at this
    exact ⟨fun z => absurd z (by rw [h1]; decide), fun z => absurd z this⟩
  · rw [h2, nI_zero (by omega)]
    refine ⟨fun z => by subst z; rw [e0] at h3; exact h3, fun z => ?_⟩
    by_cases c : i = 0
    · exact c
    · exact absurd (by rw [e0]; exact z) (h4 0 (by omega))
set_option maxHeartbeats 40000000 in
theorem p_hands {g : Page} {H : Hs} {S : Nat → Option Page} {T : Nat × (Nat → Int32)} (v : Val g) (x : Nat) (hx : x < 2147483648) : Does (wp_L_hands (nI x)) (g, H, S, T) 1 (g, noH, putS S 0 g, T) := by
  intro M Q R k
  have hp := pn_le v
  have hr := rn_le v
  obtain ⟨v0, v1, -, v3, -, v5, v6, v7, -, -, -, vpn, -⟩ := id v
  have rst : ∀ p H', Does (wp_L_tryRestore 0) (p, H', putS S 0 g, T) (g 8) (g, noH, putS S 0 g, T) := fun p H' => t_restore (K := (p, H', putS S 0 g, T)) 0 g rfl (by decide) rfl
  simp only [wp_L_hands, forall_eq]
  refine t_about 8 rfl (by decide) _ _ R (fun M R => ?_)
  refine t_about 5 rfl (by decide) _ _ R (fun M R => ?_)
  refine t_about 7 rfl (by decide) _ _ R (fun M R => ?_)
  refine t_about 9 rfl (by decide) _ _ R (fun M R => ?_)
  refine t_about 10 rfl (by decide) _ _ R (fun M R => ?_)
  refine t_about 12 rfl (by decide) _ _ R (fun M R => ?_)
  dsimp only
  have b8 : aboutF g 8 = g 8 := rfl
  have b5 : aboutF g 5 = g 5 := rfl
  have b7 : aboutF g 7 = g 7 := rfl
  have b10 : aboutF g 10 = standF g := rfl
  rw [ab9 v, ab12 v, b8, b5, b7, b10]
  refine (t_save 0 rfl (by decide)).eq R (fun M R => ?_)
  dsimp only at R
  -- nudges
  have e1201 : nI x - nI x / 1201 * 1201 = nI (x % 1201) := nI_mod (b := 1201) hx (by decide) (by decide)
  rw [e1201]
  have hb : -600 ≤ (nI (x % 1201) - 600).toInt ∧ (nI (x % 1201) - 600).toInt ≤ 600 := by
    have : (nI (x % 1201) - 600).toInt = ((x % 1201 : Nat) : Int) - ((600 : Nat) : Int) := nI_subT (a := x % 1201) (b := 600) (by omega) (by decide)
    omega
  generalize nI (x % 1201) - 600 = bb at hb
  obtain ⟨q1, q2⟩ := cost_eq hb
  have ea := absF_val (x := bb) (by omega)
  have ec : (2 * absF bb).toInt = 2 * (bb.toInt.natAbs : Int) := by rw [i32_mul (by rw [d2', ea]; omega) (by rw [d2', ea]; omega), d2', ea]
  refine ⟨fun z => z = 2 * absF bb, ⟨q1, q2⟩, ?_⟩
  rintro w19 rfl
  refine t_nudge hb _ _ R (fun M R => ⟨fun z => absurd (by rw [rem2]; rfl) z, fun _ => ?_⟩)
  refine t_about 7 rfl (by decide) _ _ R (fun M R => ?_)
  have nh : aboutF (nudgeF g bb) 7 = if 0 < g 7 - 2 * absF bb then g 7 - 2 * absF bb else 0 := rfl
  have eh : (g 7 - 2 * absF bb).toInt = (g 7).toInt - 2 * (bb.toInt.natAbs : Int) := by rw [i32_sub (by rw [ec]; omega) (by rw [ec]; omega), ec]
  dsimp only
  rw [nh]
  refine ⟨fun z => (if 0 < g 7 - 2 * absF bb then g 7 - 2 * absF bb else 0) = z, ⟨fun c => ?_, fun c => ?_⟩, ?_⟩
  · rw [i32_le, ec] at c
    show (if 0 < g 7 - 2 * absF bb then g 7 - 2 * absF bb else 0) = 0
    rw [if_neg (by rw [i32_lt, i0, eh]; omega)]
  · rw [i32_le, ec] at c
    show (if 0 < g 7 - 2 * absF bb then g 7 - 2 * absF bb else 0) = g 7 - 2 * absF bb
    rw [if_pos (by rw [i32_lt, i0, eh]; omega)]
  rintro w34 hw34
  refine ⟨fun z => absurd hw34 z, fun _ => ?_⟩
  refine t_about 6 rfl (by decide) _ _ R (fun M R => ⟨fun z => absurd rfl z, fun _ => ?_⟩)
  refine t_about 10 rfl (by decide) _ _ R (fun M R => ⟨fun z => absurd (nudge_stand g bb) z, fun _ => ?_⟩)
  have hb2 : (-bb).toInt = -bb.toInt := i32_neg (by omega)
  refine t_nudge (by omega) _ _ R (fun M R => ⟨fun z => absurd (nudge_back v hb) z, fun _ => ?_⟩)
  refine (rst _ _).eq R (fun M R => ?_)
  -- a push, a raise
  have e2048 : nI x / 2048 = nI (x / 2048) := nI_div (b := 2048) hx (by decide) (by decide)
  have e9999 : nI (x / 2048) - nI (x / 2048) / 9999 * 9999 = nI (x / 2048 % 9999) := nI_mod (b := 9999) (by omega) (by decide) (by decide)
  have e1a : 1 + nI (x / 2048 % 9999) = nI (1 + x / 2048 % 9999) := nI_addn 1 _
  rw [e2048, e9999, e1a]
  have ham : 1 ≤ 1 + x / 2048 % 9999 ∧ 1 + x / 2048 % 9999 ≤ 9999 := by omega
  generalize 1 + x / 2048 % 9999 = am at ham
  have eam : (nI am).toInt = am := nI_toInt (by omega)
  have esum : (g 7 + nI am).toInt = (g 7).toInt + am := by rw [i32_add (by rw [eam]; omega) (by rw [eam]; omega), eam]
  refine ⟨fun z => gainF g (nI am) 7 = z, ⟨fun c => ?_, fun c => ?_⟩, ?_⟩
  · rw [i32_le, esum, i9999] at c
    show (if g 7 + nI am < 9999 then g 7 + nI am else 9999) = g 7 + nI am
    by_cases d : (g 7).toInt + am < 9999
    · rw [if_pos (by rw [i32_lt, esum, i9999]; exact d)]
    · rw [if_neg (by rw [i32_lt, esum, i9999]; exact d), i32_eq, esum, i9999]; omega
  · rw [i32_le, esum, i9999] at c
    show (if g 7 + nI am < 9999 then g 7 + nI am else 9999) = 9999
    rw [if_neg (by rw [i32_lt, esum, i9999]; omega)]
  rintro w56 hw56
  refine t_push (by omega) _ _ R (fun M R => ⟨fun z => absurd hw56 z, fun _ => ?_⟩)
  refine t_undo1.eq R (fun M R => ?_)
  refine t_about 7 rfl (by decide) _ _ R (fun M R => ⟨fun z => absurd rfl z, fun _ => ?_⟩)
  refine t_raise v _ _ R (fun M R => ⟨fun z => absurd (by dsimp only; rw [g9_nI v]) z, fun _ => ?_⟩)
  refine t_about 10 rfl (by decide) _ _ R (fun M R => ⟨fun z => absurd (raise_stand v) z, fun _ => ?_⟩)
  refine t_undo1.eq R (fun M R => ?_)
  refine t_about 10 rfl (by decide) _ _ R (fun M R => ⟨fun z => absurd rfl z, fun _ => ?_⟩)
  -- one pin
  refine ⟨fun M => Rep M (g, noH, putS S 0 g, T), ⟨fun _ => R, fun c => ?_⟩, fun M R => ?_⟩
  · have p0 : 0 < pn g := by rw [i32_le, i0, nI_toInt (by omega)] at c; omega
    have e4 : nI x / 4 = nI (x / 4) := nI_div (b := 4) hx (by decide) (by decide)
    have ek : nI (x / 4) - nI (x / 4) / nI (pn g) * nI (pn g) = nI (x / 4 % pn g) := nI_modp (by omega) p0 (by omega)
    rw [e4, ek]
    have hk : x / 4 % pn g < pn g := Nat.mod_lt _ p0
    generalize x / 4 % pn g = kk at hk
    refine ⟨by rw [nI_zero (by omega)]; omega, ?_⟩
    have vk := vpn kk hk
    refine t_pin kk 0 rfl hk rfl (by decide) _ _ R (fun M R => ?_)
    have epl : pinR g kk 0 = g (12 + 2 * kk) := rfl
    dsimp only
    rw [epl]
    refine t_falls kk v rfl hk _ _ R (fun M R => ?_)
    refine ⟨fun z => (z = 1 ∧ fallR g kk = 0) ∨ (z = 0 ∧ ¬ fallR g kk = 0), ⟨fun c => Or.inr ⟨rfl, c⟩, fun c => Or.inl ⟨rfl, c⟩⟩, fun w93 h93 => ?_⟩
    refine t_pin kk 1 rfl hk rfl (by decide) _ _ R (fun M R => ?_)
    refine ⟨fun z => (z = 1 ∧ g (13 + 2 * kk) = 0) ∨ (z = 0 ∧ ¬ g (13 + 2 * kk) = 0), ⟨fun c => Or.inr ⟨rfl, c⟩, fun c => Or.inl ⟨rfl, c⟩⟩, fun w98 h98 => ?_⟩
    refine ⟨fun z => absurd (jb (fallR_zero kk) h93 h98) z, fun _ => ?_⟩
    refine (t_removePin kk v rfl hk).eq R (fun M R => ?_)
    have vr := Val_remove v hk
    obtain ⟨r1, r2⟩ := remove_pn v hk
    have em1 : nI (pn g) - 1 = nI (pn g - 1) := by rw [show (1 : Int32) = nI 1 from rfl, Int32.sub_eq_iff_eq_add, nI_addn, Nat.sub_add_cancel (by omega)]
    rw [em1]
    refine t_about 9 rfl (by decide) _ _ R (fun M R => ⟨fun z => absurd r2 z, fun _ => ?_⟩)
    refine t_addPin (K := (removeF g kk, _, _)) vr ⟨vk.1, vk.2.1⟩ (by show pn (removeF g kk) < 40; omega) (remove_free v hk) _ _ R (fun M R => ⟨fun z => absurd ?_ z, fun _ => ?_⟩)
    · show putF (removeF g kk) (g (12 + 2 * kk)) 9 - 1 = _
      have : putF (removeF g kk) (g (12 + 2 * kk)) 9 = removeF g kk 9 + 1 := by unfold putF; rw [updE, if_pos rfl]
      rw [this, r2, Int32.add_sub_cancel]
    have vq := R.val
    have ppn : pn (putF (removeF g kk) (g (12 + 2 * kk))) = pn g := by
      rw [pn_put _ _ (by rw [r2, nI_toInt (by omega)]; omega), r1]; omega
    refine t_pin (pn g - 1) 1 rfl (by show _ < pn (putF (removeF g kk) (g (12 + 2 * kk))); omega) rfl (by decide) _ _ R (fun M R => ⟨fun z => absurd ?_ z, fun _ => ?_⟩)
    · show putF (removeF g kk) (g (12 + 2 * kk)) (13 + 2 * (pn g - 1)) = 1
      rw [← r1]; exact put_new
    refine (rst _ _).eq R (fun M R => ?_)
    -- when it falls
    rcases falls_spec (g := g) kk with ⟨f1, -⟩ | ⟨n, n2, f1, f2, f3⟩
    · rw [f1]
      exact ⟨fun _ => R, fun z => absurd (by decide) z⟩
    rw [f1]
    have en : (nI n).toInt = n := nI_toInt (by omega)
    refine ⟨fun _ => R, fun c1 => ⟨fun _ => R, fun c2 => ?_⟩⟩
    have d500' : (500 : Int32).toInt = 500 := rfl
    rw [i32_le, i0, en] at c1
    rw [i32_lt, d500', en] at c2
    have hn : 1 ≤ n ∧ n ≤ 500 := by omega
    obtain ⟨m, rfl⟩ : ∃ m, n = m + 1 := ⟨n - 1, by omega⟩
    obtain ⟨cc, cc0, cc1, ecc⟩ := fall_cnt v hk (f3 m (by omega)) f2
    refine t_swing (m + 1) rfl hn _ _ R (fun M R => ⟨fun z => absurd z ?_, fun _ => ?_⟩)
    · dsimp only
      rw [ecc, i32_le, i0, nI_toInt (by omega)]; omega
    refine t_pin kk 1 rfl (by show kk < pn (turnN (m + 1) (g, 0, -9)).1; rw [turnN_pn _ v]; exact hk) rfl (by decide) _ _ R (fun M R => ⟨fun z => absurd f2 z, fun _ => ?_⟩)
    refine (rst _ _).eq R (fun M R => ?_)
    refine ⟨fun M => ∃ p H', Rep M (p, H', putS S 0 g, T), ⟨fun _ => ⟨_, _, R⟩, fun c3 => ?_⟩, ?_⟩
    · have em2 : nI (m + 1) - 1 = nI m := by rw [← nI_1, Int32.add_sub_cancel]
      have m0 : 1 ≤ m := by
        rw [i32_eq, en, i1] at c3; omega
      rw [em2]
      obtain ⟨cd, cd1, ecd⟩ := turnN_cnt v (-9) m
      refine t_swing m rfl (by omega) _ _ R (fun M R => ⟨fun z => absurd z ?_, fun _ => ?_⟩)
      · dsimp only
        rw [ecd, s_lt0, nI_toInt (by omega)]; omega
      have vm := Val_turnN m (s := (g, 0, -9)) v
      have hkm : kk < pn (turnN m (g, 0, -9)).1 := by rw [turnN_pn _ v]; exact hk
      refine t_pin kk 1 rfl hkm rfl (by decide) _ _ R (fun M R => ⟨fun z => absurd ?_ z, fun _ => ⟨_, _, R⟩⟩)
      exact (flag01 vm hkm).resolve_left (f3 m (by omega))
    · rintro M ⟨p, H', R⟩
      exact (rst _ _).eq R (fun M R => R)
  -- the pin that is hit next
  refine t_next _ _ R (fun M R => ?_)
  dsimp only
  refine ⟨fun M => Rep M (g, noH, putS S 0 g, T), ⟨fun _ => R, fun c => ?_⟩, fun M R => ?_⟩
  · obtain ⟨kk, i, hk, en, hi, fl1, fl0, nf⟩ := next_spec v c
    rw [en]
    have key : ∀ k, k < pn g → g (13 + 2 * k) = 1 → fallR g k = -9 ∨ ∃ n : Nat, i + 1 ≤ n ∧ n ≤ 2000 ∧ fallR g k = nI n := fun k hk h1 => by
      rcases falls_spec (g := g) k with ⟨f1, -⟩ | ⟨n, n2, f1, f2, f3⟩
      · exact Or.inl f1
      · right
        refine ⟨n, ?_, n2, f1⟩
        by_cases d : i + 1 ≤ n
        · exact d
        · have := nf k hk n (by omega)
          rw [f2, h1] at this
          exact absurd this (by decide)
    have ef : fallR g kk = nI (i + 1) := by
      rcases falls_spec (g := g) kk with ⟨f1, f2⟩ | ⟨n, n2, f1, f2, f3⟩
      · exact absurd fl0 (f2 (i + 1) (by omega))
      · rcases key kk hk fl1 with z | ⟨n', n1, n3, z⟩
        · rw [z] at f1; exact absurd f1.symm (m9' (by omega))
        · by_cases d : n = i + 1
          · rw [f1, d]
          · have : n' = n := by
              rw [z] at f1
              have := congrArg Int32.toInt f1
              rw [nI_toInt (by omega), nI_toInt (by omega)] at this
              omega
            exact absurd fl0 (f3 (i + 1) (by omega))
    refine t_falls kk v rfl hk _ _ R (fun M R => ?_)
    dsimp only
    rw [ef]
    have ei : (nI (i + 1)).toInt = (i + 1 : Nat) := nI_toInt (by omega)
    refine ⟨fun z => absurd z (by rw [i32_le, i0, ei]; omega), fun _ => ?_⟩
    refine t_pin kk 1 rfl hk rfl (by decide) _ _ R (fun M R => ⟨fun z => absurd fl1 z, fun _ => ?_⟩)
    refine ⟨fun w M => Rep M (g, noH, putS S 0 g, T) ∧ ∃ n, n ≤ pn g ∧ w = nI n, fun w _ => 41 - w.toNatClampNeg, by show 41 - (0 : Int32).toNatClampNeg < 42; decide, ⟨R, 0, Nat.zero_le _, rfl⟩, ?_⟩
    rintro w M ⟨R, n, hn, rfl⟩
    rw [nI_leI (by omega) (by omega)]
    refine ⟨fun _ => R, fun c2 => ?_⟩
    have hn2 : n < pn g := by omega
    refine t_falls n v rfl hn2 _ _ R (fun M R => ?_)
    refine t_pin n 1 rfl hn2 rfl (by decide) _ _ R (fun M R => ?_)
    refine ⟨True, ⟨fun _ => trivial, fun f => ⟨fun _ => trivial, fun f9 => ⟨fun f3 => ?_, fun _ => trivial⟩⟩⟩, fun _ => ⟨⟨R, n + 1, by omega, nI_1 n⟩, mu_lt (by omega) (by decide)⟩⟩
    have f1 : g (13 + 2 * n) = 1 := (flag01 v hn2).resolve_left f
    rcases key n hn2 f1 with z | ⟨n', n1, n3, z⟩
    · exact f9 z
    · dsimp only at f3
      rw [z, nI_ltI (by omega) (by omega)] at f3
      omega
  -- low heights
  have e64 : nI x / 64 = nI (x / 64) := nI_div (b := 64) hx (by decide) (by decide)
  have e10k : nI (x / 64) - nI (x / 64) / 10000 * 10000 = nI (x / 64 % 10000) := nI_mod (b := 10000) (by omega) (by decide) (by decide)
  rw [e64, e10k]
  have hlow : x / 64 % 10000 < 10000 := Nat.mod_lt _ (by decide)
  generalize x / 64 % 10000 = low at hlow
  have elow : (nI low).toInt = low := nI_toInt (by omega)
  refine t_low (by omega) _ _ R (fun M R => ?_)
  dsimp only
  refine ⟨fun z => (z = 1 ∧ lowR g (nI low) = 0) ∨ (z = 0 ∧ ¬ lowR g (nI low) = 0), ⟨fun c => Or.inr ⟨rfl, c⟩, fun c => Or.inl ⟨rfl, c⟩⟩, fun w h1 => ?_⟩
  refine ⟨fun z => (z = 1 ∧ ¬ nI low < g 7) ∨ (z = 0 ∧ ¬ ¬ nI low < g 7), ⟨fun c => Or.inr ⟨rfl, fun z => z c⟩, fun c => Or.inl ⟨rfl, c⟩⟩, fun w2 h2 => ?_⟩
  have L := low_spec (g := g) (nI low)
  have iff0 : lowR g (nI low) = 0 ↔ ¬ nI low < g 7 := by
    have e0 : (turnN 0 (g, 0, -9)).1 7 = g 7 := rfl
    rcases L with ⟨f1, f2⟩ | ⟨i, i2, f1, f2, f3⟩
    · exact ⟨fun z => absurd z (by rw [f1]; decide), fun z => absurd f2 z⟩
    · rw [f1, nI_zero (by omega)]
      refine ⟨fun z => by subst z; rw [e0] at f2; exact f2, fun z => ?_⟩
      by_cases c : i = 0
      · exact c
      · have := f3 0 (by omega)
        rw [e0] at this
        exact absurd this z
  refine ⟨fun z => absurd (jb iff0 h1 h2) z, fun _ => ?_⟩
  refine ⟨fun M => Rep M (g, noH, putS S 0 g, T), ⟨fun _ => R, fun c1 => ⟨fun _ => R, fun c2 => ?_⟩⟩, fun M R => ?_⟩
  · rcases L with ⟨f1, -⟩ | ⟨i, i2, f1, f2, f3⟩
    · rw [f1] at c1; exact absurd (by decide) c1
    · rw [f1] at c1 c2 ⊢
      have ei : (nI i).toInt = i := nI_toInt (by omega)
      have d500' : (500 : Int32).toInt = 500 := rfl
      rw [i32_le, i0, ei] at c1
      rw [i32_lt, d500', ei] at c2
      refine t_ahead i 1 rfl (by omega) rfl (by decide) _ _ R (fun M R => ⟨fun z => absurd z f2, fun _ => ?_⟩)
      have em : nI i - 1 = nI (i - 1) := by rw [show (1 : Int32) = nI 1 from rfl, Int32.sub_eq_iff_eq_add, nI_addn, Nat.sub_add_cancel (by omega)]
      rw [em]
      refine t_ahead (i - 1) 1 rfl (by omega) rfl (by decide) _ _ R (fun M R => ⟨fun z => absurd z ?_, fun _ => R⟩)
      have f := f3 (i - 1) (by omega)
      rw [i32_lt] at f
      show ¬ (turnN (i - 1) (g, 0, -9)).1 7 ≤ nI low
      rw [i32_le]; omega
  -- pushes that are enough
  have e40 : nI x - nI x / 40 * 40 = nI (x % 40) := nI_mod (b := 40) hx (by decide) (by decide)
  have e41 : 1 + nI (x % 40) = nI (1 + x % 40) := nI_addn 1 _
  rw [e40, e41]
  have hm : 1 ≤ 1 + x % 40 ∧ 1 + x % 40 ≤ 40 := by omega
  generalize 1 + x % 40 = m at hm
  have emI : (nI m).toInt = m := nI_toInt (by omega)
  refine t_pushFor m rfl (by omega) _ _ R (fun M R => ?_)
  dsimp only
  refine ⟨fun M => Rep M (g, noH, putS S 0 g, T), ⟨fun _ => R, fun c => ?_⟩, fun M R => ?_⟩
  · rcases push_spec (g := g) m with f1 | ⟨j, hj, f1, f2⟩
    · exact absurd f1 c
    rw [f1]
    have e100 : nI (100 * j) - nI (100 * j) / 100 * 100 = nI (100 * j % 100) := nI_mod (b := 100) (by omega) (by decide) (by decide)
    have ej : (nI (100 * j)).toInt = 100 * j := by rw [nI_toInt (by omega)]; omega
    rw [e100]
    refine ⟨fun z => absurd (by rw [show 100 * j % 100 = 0 by omega]; rfl) z, fun _ => ?_⟩
    refine ⟨fun M => ∃ H', Rep M (gainF g (nI (100 * j)), H', putS S 0 g, T), ⟨fun c0 => ?_, fun c0 => ?_⟩, ?_⟩
    · refine ⟨noH, ?_⟩
      rw [c0, gain0 v]; exact R
    · have j0 : 0 < j := by
        rw [nI_zero (by omega)] at c0; omega
      refine t_push (by omega) _ _ R (fun M R => ⟨fun z => absurd z ?_, fun _ => ⟨_, R⟩⟩)
      show ¬ (if g 7 + nI (100 * j) < 9999 then g 7 + nI (100 * j) else 9999) ≤ 0
      have es : (g 7 + nI (100 * j)).toInt = (g 7).toInt + 100 * j := by rw [i32_add (by rw [ej]; omega) (by rw [ej]; omega), ej]
      rw [i32_le, i0]
      split
      · rw [es]; omega
      · rw [i9999]; omega
    · rintro M ⟨H', R⟩
      have vg := R.val
      obtain ⟨m', rfl⟩ : ∃ m', m = m' + 1 := ⟨m - 1, by omega⟩
      have f := of_decide_eq_true (allB_iff.mp f2 m' (by omega))
      refine t_ahead (m' + 1) 1 rfl (by omega) rfl (by decide) _ _ R (fun M R => ?_)
      refine t_about 3 rfl (by decide) _ _ R (fun M R => ⟨fun z => absurd z ?_, fun _ => ?_⟩)
      · have s3 : (turnN (m' + 1) (gainF g (nI (100 * j)), 0, -9)).1 3 = gainF g (nI (100 * j)) 3 := turnN_still vg 0 (-9) (by unfold Still; omega) _
        rw [s3, i32_le] at f
        show ¬ (turnN (m' + 1) (gainF g (nI (100 * j)), 0, -9)).1 7 < gainF g (nI (100 * j)) 3
        rw [i32_lt]; omega
      exact (rst _ _).eq R (fun M R => R)
  -- free starts
  refine t_free m rfl (by omega) _ _ R (fun M R => ?_)
  dsimp only
  refine ⟨True, ⟨fun _ => trivial, fun c => ⟨fun z => ?_, fun _ => trivial⟩⟩, fun _ => ?_⟩
  · rcases free_spec (g := g) m with f1 | ⟨j, hj, f1⟩
    · exact absurd f1 c
    · rw [f1] at z
      have e60 : nI (60 * j) - nI (60 * j) / 60 * 60 = nI (60 * j % 60) := nI_mod (b := 60) (by omega) (by decide) (by decide)
      rw [e60, show 60 * j % 60 = 0 by omega] at z
      exact absurd rfl z
  refine ⟨True, ⟨fun _ => trivial, fun c => ⟨fun z => ?_, fun _ => trivial⟩⟩, fun _ => ?_⟩
  · rw [i32_lt, i0, nI_toInt (by omega)] at c
    exact absurd (free_none v (by omega) m) z
  -- readings
  refine ⟨fun M => Rep M (g, noH, putS S 0 g, T), ⟨fun _ => R, fun c => ?_⟩, fun M R => ?_⟩
  · have hr19 : rn g < 19 := by
      rw [show (19 : Int32) = nI 19 from rfl, nI_leI (by decide) (by omega)] at c; omega
    obtain ⟨a1, a2, a3, a4, a5⟩ := read_rows v (by omega)
    have va := Val_read v (by omega)
    have e1 : nI (rn g) + 1 = nI (rn g + 1) := nI_1 _
    rw [e1]
    refine t_read v (by show rn g < 20; omega) _ _ R (fun M R => ⟨fun z => absurd ?_ z, fun _ => ?_⟩)
    · show readF g 11 - 1 = _
      rw [a1, ← nI_1, Int32.add_sub_cancel]
    refine t_reading (rn g) 1 rfl (by show rn g < rn (readF g); omega) rfl (by decide) _ _ R (fun M R => ⟨fun z => absurd ?_ z, fun _ => ?_⟩)
    · show readF g (152 + (3 * rn g + 1)) = _
      rw [show 152 + (3 * rn g + 1) = 153 + 3 * rn g by omega, a4]
    obtain ⟨cd, cd1, ecd⟩ := turnN_cnt va (-9) m
    refine t_swing m rfl (by omega) _ _ R (fun M R => ⟨fun z => absurd z ?_, fun _ => ?_⟩)
    · dsimp only
      rw [ecd, s_lt0, nI_toInt (by omega)]; omega
    have vt := Val_turnN m (s := (readF g, 0, -9)) va
    have st : ∀ j, Still j → (turnN m (readF g, 0, -9)).1 j = readF g j := fun j hj => turnN_still va 0 (-9) hj m
    have ck := turnN_clock va 0 (-9) m
    have rt : rn (turnN m (readF g, 0, -9)).1 = rn g + 1 := by
      unfold rn at a2 ⊢
      rw [st 11 (by unfold Still; omega)]; exact a2
    have w5 : (turnN m (readF g, 0, -9)).1 (153 + 3 * rn g) = g 5 := by rw [st _ (by unfold Still; omega), a4]
    have w0 : (turnN m (readF g, 0, -9)).1 0 = g 0 := by rw [st 0 (by unfold Still; omega), a5 0 (by decide) (by omega)]
    have w8 : (turnN m (readF g, 0, -9)).1 8 = g 8 + nI m := by rw [ck, a5 8 (by decide) (by omega)]
    dsimp only at R
    generalize (turnN m (readF g, 0, -9)).1 = p at R vt rt w5 w0 w8
    obtain ⟨c1, c2, c3, c4, c5⟩ := read_rows vt (by omega)
    rw [rt] at c1 c2 c3 c4 c5
    have vc := Val_read vt (by omega)
    refine t_read vt (by show rn p < 20; omega) _ _ R (fun M R => ⟨fun z => absurd ?_ z, fun _ => ?_⟩)
    · show readF p 11 - 1 = _
      rw [c1, ← nI_1, Int32.add_sub_cancel]
    refine t_reading (rn g + 1) 0 rfl (by show rn g + 1 < rn (readF p); omega) rfl (by decide) _ _ R (fun M R => ⟨fun z => absurd ?_ z, fun _ => ?_⟩)
    · show readF p (152 + (3 * (rn g + 1) + 0)) = _
      rw [Nat.add_zero, c3, w8]
    refine t_move (K := (readF p, _, _)) (rn g) (rn g + 1) vc rfl rfl (by omega) (by show rn g + 1 < rn (readF p); omega) _ _ R (fun M R => ?_)
    refine t_about 5 rfl (by decide) _ _ R (fun M R => ⟨fun z => absurd ?_ z, fun _ => ?_⟩)
    · rw [rem2]
      show aroundF (readF p (153 + 3 * (rn g + 1)) - readF p (153 + 3 * rn g)) = aroundF (readF p 5 - g 5)
      rw [c4, c5 (153 + 3 * rn g) (by omega) (by omega), c5 5 (by decide) (by omega), w5]
    have w00 : readF p 0 = g 0 := by rw [c5 0 (by decide) (by omega), w0]
    refine t_about 0 rfl (by decide) _ _ R (fun M R => ?_)
    refine ⟨fun z => (z = 1 ∧ readF p 0 = 0) ∨ (z = 0 ∧ ¬ readF p 0 = 0), ⟨fun c => Or.inr ⟨rfl, c⟩, fun c => Or.inl ⟨rfl, c⟩⟩, fun w h1 => ?_⟩
    refine t_time (K := (readF p, _, _)) (rn g) (rn g + 1) vc rfl rfl (by omega) (by show rn g + 1 < rn (readF p); omega) _ _ R (fun r M ht R => ?_)
    refine ⟨fun z => (z = 1 ∧ r = -9) ∨ (z = 0 ∧ ¬ r = -9), ⟨fun c => Or.inr ⟨rfl, c⟩, fun c => Or.inl ⟨rfl, c⟩⟩, fun w2 h2 => ?_⟩
    refine ⟨fun z => absurd (jb ht.symm h1 h2) z, fun _ => ?_⟩
    have d90 : (90 : Int32).toInt = 90 := rfl
    have dm90 : (-90 : Int32).toInt = -90 := rfl
    refine t_lat (K := (readF p, _, _)) (rn g) (rn g + 1) vc rfl rfl (by omega) (by show rn g + 1 < rn (readF p); omega) _ _ R (fun r M hl R => ⟨fun z => absurd z (by rw [i32_lt, dm90]; omega), fun _ => ?_⟩)
    refine t_lat (K := (readF p, _, _)) (rn g) (rn g + 1) vc rfl rfl (by omega) (by show rn g + 1 < rn (readF p); omega) _ _ R (fun r M hl R => ⟨fun z => absurd z (by rw [i32_lt, d90]; omega), fun _ => ?_⟩)
    exact (rst _ _).eq R (fun M R => R)
  -- sines
  have e90 : nI x - nI x / 90 * 90 = nI (x % 90) := nI_mod (b := 90) hx (by decide) (by decide)
  rw [e90]
  have hl : x % 90 < 90 := Nat.mod_lt _ (by decide)
  generalize x % 90 = l at hl
  obtain ⟨s1, s2⟩ := sin_odd l hl
  have el : (nI l).toInt = l := nI_toInt (by omega)
  have el2 : (-(nI l)).toInt = -(l : Int) := by rw [i32_neg (by rw [el]; omega), el]
  have el3 : (nI l + 1).toInt = (l : Int) + 1 := by rw [nI_1, nI_toInt (by omega)]; omega
  refine t_sine (by omega) _ _ R (fun M R => ?_)
  refine t_sine (by omega) _ _ R (fun M R => ⟨fun z => absurd s1 z, fun _ => ?_⟩)
  refine t_sine (by omega) _ _ R (fun M R => ?_)
  refine t_sine (by omega) _ _ R (fun M R => ⟨fun z => absurd z (by rw [i32_lt]; omega), fun _ => ?_⟩)
  refine t_sine (by decide) _ _ R (fun M R => ⟨fun z => absurd (by decide +kernel) z, fun _ => ?_⟩)
  refine (rst _ _).eq R (fun M R => ?_)
  exact (t_undoS rfl).eq R (fun M R => k _ R)

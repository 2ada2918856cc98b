/-! THE LAW's BODY -/
theorem putS_putS {S : Nat → Option Page} {g : Page} : putS (putS S 0 g) 0 g = putS S 0 g := by
  funext i
  unfold putS
  split <;> rfl
theorem p_law {xs : Nat → Int32} {L : Nat} (hL : L ≤ 260) {g : Page} {t : Nat → Int32} (M : Mem) (h7 : g 7 = 5000) (h9 : pn g = 0) (R : Rep2 M (g, noH, (fun _ => none), (0, t)) (g, noH, (fun _ => none), (0, t))) : wp_law xs L M := by
  have v : Val g := R.1.val
  have er : errAt t 0 0 := ⟨Nat.le_refl _, fun i hi => absurd hi (by omega), fun h => absurd h (by omega), fun _ h => absurd h.1 (by decide)⟩
  have nx : nextR g = -9 := by
    apply Classical.byContradiction
    intro h
    obtain ⟨kk, i, hk, -⟩ := next_spec v h
    omega
  unfold wp_law
  refine (t_err (K := (g, noH, (fun _ => none), (0, t))) er).p R (fun M R => ⟨fun z => absurd rfl z, fun _ => ?_⟩)
  refine (t_about 7 rfl (by decide)).p R (fun M R => ⟨fun z => absurd h7 z, fun _ => ?_⟩)
  refine t_next.p R (fun M R => ⟨fun z => absurd nx z, fun _ => ?_⟩)
  refine (t_undoS rfl).p R (fun M R => ⟨fun z => absurd rfl z, fun _ => ?_⟩)
  refine (p_refuses v).q R (fun M R => ⟨fun z => absurd z (by decide), fun _ => ?_⟩)
  refine p_alike v _ _ R (fun M R => ⟨fun z => absurd z (by decide), fun _ => ?_⟩)
  refine ⟨fun w M => ∃ n K, n ≤ 2 ∧ w = nI n ∧ Rep2 M K K, fun w _ => 3 - w.toNatClampNeg, by show 3 - (0 : Int32).toNatClampNeg < 4; decide, ⟨0, _, by decide, rfl, R⟩, ?_⟩
  clear R v er nx h7 h9
  rintro w M ⟨n, K, hn, rfl, R⟩
  have c2' : ((2 : Int32) ≤ nI n) ↔ 2 ≤ n := by rw [show (2 : Int32) = nI 2 from rfl]; exact nI_leI (by omega) (by omega)
  refine ⟨fun _ => trivial, fun c => ?_⟩
  rw [c2'] at c
  have e40 : (40 : Int32) * nI n = nI (40 * n) := nI_mul 40 n
  intro v29 h29
  rw [e40] at h29
  subst h29
  refine p_told hL (40 * n) (by omega) _ _ R (fun M K R => ⟨fun z => absurd z (by decide), fun _ => ?_⟩)
  refine (p_refuses R.2.val).q R (fun M R => ⟨fun z => absurd z (by decide), fun _ => ?_⟩)
  refine p_alike R.1.val _ _ R (fun M R => ⟨fun z => absurd z (by decide), fun _ => ?_⟩)
  refine ⟨fun w M => ∃ m K, m ≤ 12 ∧ w = nI m ∧ Rep2 M K K, fun w _ => 13 - w.toNatClampNeg, by show 13 - (0 : Int32).toNatClampNeg < 14; decide, ⟨0, _, by decide, rfl, R⟩, ?_⟩
  clear R
  rintro w M ⟨m, K, hm, rfl, R⟩
  have c12' : ((12 : Int32) ≤ nI m) ↔ 12 ≤ m := by rw [show (12 : Int32) = nI 12 from rfl]; exact nI_leI (by omega) (by omega)
  refine ⟨fun _ => ?_, fun c2 => ?_⟩
  · intro v44 h44
    subst h44
    exact ⟨⟨n + 1, _, by omega, nI_1 n, R⟩, mu_lt (by omega) (by decide)⟩
  rw [c12'] at c2
  intro v46 h46 v47 h47 v48 h48 v49 h49
  have e49 : v49 = nI (40 * n + 3 + 2 * m) := by
    rw [h49, h48, h47, h46, e40, nI_lit2, show (3 : Int32) = nI 3 from rfl, nI_addn, nI_addn]
  refine p_number hL _ e49 (by omega) _ _ (fun X hX => ?_)
  intro v52 h52 v53 h53 v54 h54 v55 h55
  have e55 : v55 = nI (40 * n + 4 + 2 * m) := by
    rw [h55, h54, h53, h52, e40, nI_lit2, show (4 : Int32) = nI 4 from rfl, nI_addn, nI_addn]
  refine p_number hL _ e55 (by omega) _ _ (fun Y hY => ?_)
  obtain ⟨r, K', D⟩ := p_act R.1.val X Y hX hY
  refine D.p R (fun M R => ?_)
  refine D.q R (fun M R => ⟨fun z => absurd rfl z, fun _ => ?_⟩)
  refine (p_refuses R.2.val).q R (fun M R => ⟨fun z => absurd z (by decide), fun _ => ?_⟩)
  refine p_alike R.1.val _ _ R (fun M R => ⟨fun z => absurd z (by decide), fun _ => ?_⟩)
  intro v72 h72
  have fin : ∀ M K, Rep2 M K K → ∀ v119 : Int32, v119 = nI m + 1 → ((∃ m' K, m' ≤ 12 ∧ v119 = nI m' ∧ Rep2 M K K) ∧ 13 - v119.toNatClampNeg < 13 - (nI m).toNatClampNeg) := fun M K R v h => by
    subst h
    exact ⟨⟨m + 1, K, by omega, nI_1 m, R⟩, mu_lt (by omega) (by decide)⟩
  refine ⟨fun M => ∃ K, Rep2 M K K, ⟨fun _ => ⟨_, R⟩, fun _ => ?_⟩, fun M ⟨K, R⟩ => fin M K R⟩
  have v := R.1.val
  obtain ⟨g, H, S, T⟩ := K'
  dsimp only at v
  refine (t_about 8 rfl (by decide)).p R (fun M R => ?_)
  dsimp only
  have b8 : aboutF g 8 = g 8 := rfl
  rw [b8]
  refine (p_scripts (K := (g, H, S, T)) v (nI X)).p R (fun M R => ⟨fun z => absurd z (by decide), fun _ => ?_⟩)
  refine (t_save 0 rfl (by decide)).q R (fun M R => ⟨fun z => absurd rfl z, fun _ => ?_⟩)
  refine (t_save 0 rfl (by decide)).p R (fun M R => ⟨fun z => absurd rfl z, fun _ => ?_⟩)
  dsimp only at R
  have rst : ∀ p H', Does (wp_L_tryRestore 0) (p, H', putS S 0 g, T) (g 8) (g, noH, putS S 0 g, T) := fun p H' => t_restore (K := (p, H', putS S 0 g, T)) 0 g rfl (by decide) rfl
  refine (rst _ _).p R (fun M R => ⟨fun z => absurd rfl z, fun _ => ?_⟩)
  have DH := p_hands (g := g) (H := noH) (S := putS S 0 g) (T := T) v Y hY
  rw [putS_putS] at DH
  refine DH.p R (fun M R => ⟨fun z => absurd z (by decide), fun _ => ?_⟩)
  refine p_turns (K := (g, noH, putS S 0 g, T)) v Y hY _ _ R.1 (fun M' p H' R' M3 e3 => ⟨fun z => absurd z (by decide), fun _ => ?_⟩)
  subst e3
  have R : Rep2 (mg 0 M M') (p, H', putS S 0 g, T) (g, H, putS S 0 g, T) := ⟨R'.same, R.2.other (by decide)⟩
  refine (rst _ _).p R (fun M R => ⟨fun z => absurd rfl z, fun _ => ?_⟩)
  refine (rst _ _).q R (fun M R => ⟨fun z => absurd rfl z, fun _ => ?_⟩)
  refine (t_undoS rfl).p R (fun M R => ⟨fun z => absurd rfl z, fun _ => ?_⟩)
  exact p_alike v _ _ R (fun M R => ⟨fun z => absurd z (by decide), fun _ => ⟨_, R⟩⟩)

/-! THE LAW's CHECKS: refuses -/
theorem Does.eq {wp : Mem → (Int32 → Mem → Prop) → Prop} {K K' : KS} {c : Int32} (D : Does wp K c K') {M : Mem} {P : Int32 → Mem → Prop} (R : Rep M K) (k : ∀ M', Rep M' K' → P c M') : wp M (fun r M1 => (¬ r = c → False) ∧ (r = c → P r M1)) := D _ _ R (fun M' R' => ⟨fun z => z rfl, fun _ => k M' R'⟩)
theorem pn_le {g : Page} (v : Val g) : pn g ≤ 40 := by have := v.pins.1; unfold pn; omega
theorem rn_le {g : Page} (v : Val g) : rn g ≤ 20 := by obtain ⟨-, -, -, -, -, -, -, -, -, -, v11, -⟩ := id v; unfold rn; omega
theorem g9_nI {g : Page} (v : Val g) : g 9 = nI (pn g) := nI_of_toInt v.pins.1.1
theorem g11_nI {g : Page} (v : Val g) : g 11 = nI (rn g) := by obtain ⟨-, -, -, -, -, -, -, -, -, -, v11, -⟩ := id v; exact nI_of_toInt v11.1
theorem ab9 {g : Page} (v : Val g) : aboutF g 9 = nI (pn g) := by
  show g 9 = _
  exact g9_nI v
theorem ab12 {g : Page} (v : Val g) : aboutF g 12 = nI (rn g) := by
  show g 11 = _
  exact g11_nI v
theorem nI_zero {n : Nat} (h : n < 2147483648) : nI n = 0 ↔ n = 0 := by rw [i32_eq, nI_toInt h, i0]; omega
theorem t_setN {K : KS} {x y : Int32} (a : Nat) (hx : x = nI a) (ha : a < 6) (no : ¬ SetOK a y) : Does (wp_L_trySet x y) K (-1002) K := by
  refine t_setA (fun w hw ok => ?_)
  have h5 := ok.1
  have : a = w := by
    have := congrArg Int32.toInt (hx.symm.trans hw)
    rw [nI_toInt (by omega), nI_toInt (by omega)] at this
    omega
  subst this
  exact no ok
theorem p_refuses {K : KS} (v : Val K.1) : Does wp_L_refuses K 1 K := by
  intro M Q R k
  have hp := pn_le v
  have hr := rn_le v
  unfold wp_L_refuses
  refine t_about 9 rfl (by decide) _ _ R (fun M R => ?_)
  refine t_about 12 rfl (by decide) _ _ R (fun M R => ?_)
  rw [ab9 v, ab12 v]
  refine (t_aboutX (by decide)).eq R (fun M R => ?_)
  refine (t_pinI v (by rw [nI_toInt (by omega)]; omega)).eq R (fun M R => ?_)
  refine ⟨fun M => Rep M K, ⟨fun c => R, fun c => ?_⟩, fun M R => ?_⟩
  · have h0 : 0 < pn K.1 := by rw [nI_zero (by omega)] at c; omega
    refine (t_pinA 0 v rfl h0 (by decide)).eq R (fun M R => ?_)
    refine t_pin 0 0 rfl h0 rfl (by decide) _ _ R (fun M R => ?_)
    obtain ⟨-, -, -, -, -, -, -, -, -, -, -, vp, -⟩ := id v
    have q := vp 0 h0
    refine (t_addPinS v ⟨q.1, q.2.1⟩ (Or.inr ?_)).eq R (fun M R => R)
    show ¬ pinF K.1 (K.1 (12 + 2 * 0)) = -9
    rw [pinF_at v h0]
    decide
  refine (t_hitA (by decide)).eq R (fun M R => ?_)
  refine (t_hitA (by decide)).eq R (fun M R => ?_)
  refine (t_readingI v (by rw [nI_toInt (by omega)]; omega)).eq R (fun M R => ?_)
  refine ⟨fun M => Rep M K, ⟨fun c => R, fun c => ?_⟩, fun M R => ?_⟩
  · have h0 : 0 < rn K.1 := by rw [nI_zero (by omega)] at c; omega
    exact (t_readingA 0 v rfl h0 (by decide)).eq R (fun M R => R)
  refine (t_sineA (by decide)).eq R (fun M R => ?_)
  refine (t_swingA (by decide)).eq R (fun M R => ?_)
  refine (t_swingA (by decide)).eq R (fun M R => ?_)
  refine (t_setN 0 rfl (by decide) (by unfold SetOK; decide)).eq R (fun M R => ?_)
  refine (t_setN 1 rfl (by decide) (by unfold SetOK; decide)).eq R (fun M R => ?_)
  refine (t_setN 2 rfl (by decide) (by unfold SetOK; decide)).eq R (fun M R => ?_)
  refine (t_setN 3 rfl (by decide) (by unfold SetOK; decide)).eq R (fun M R => ?_)
  refine (t_setN 4 rfl (by decide) (by unfold SetOK; decide)).eq R (fun M R => ?_)
  refine (t_setN 5 rfl (by decide) (by unfold SetOK; decide)).eq R (fun M R => ?_)
  refine (t_pushA (by decide)).eq R (fun M R => ?_)
  refine (t_nudgeA (by decide)).eq R (fun M R => ?_)
  refine (t_addPinA (by decide)).eq R (fun M R => ?_)
  refine (t_removePinI v (by rw [nI_toInt (by omega)]; omega)).eq R (fun M R => ?_)
  refine ⟨fun M => Rep M K, ⟨fun c => R, fun c => ?_⟩, fun M R => ?_⟩
  · have : ¬ rn K.1 < 20 := by rw [show (20 : Int32) = nI 20 from rfl, nI_ltI (by omega) (by omega)] at c; exact c
    exact (t_readS v this).eq R (fun M R => R)
  refine (t_moveI v (fun z => by have := z.1.2; rw [nI_toInt (by omega)] at this; omega)).eq R (fun M R => ?_)
  refine ⟨fun M => Rep M K, ⟨fun c => R, fun c => ?_⟩, fun M R => ?_⟩
  · have h0 : 0 < rn K.1 := by rw [nI_zero (by omega)] at c; omega
    have i0' : isR K.1 0 := isR_of (a := 0) h0 hr
    refine (t_moveA v i0' i0' (by decide)).eq R (fun M R => ?_)
    refine (t_timeA v i0' i0' (by decide)).eq R (fun M R => ?_)
    exact (t_latA v i0' i0' (by decide)).eq R (fun M R => R)
  refine (t_timeI v (fun z => by have := z.2.2; rw [nI_toInt (by omega)] at this; omega)).eq R (fun M R => ?_)
  refine (t_aheadA (by decide)).eq R (fun M R => ?_)
  refine (t_aheadA (by decide)).eq R (fun M R => ?_)
  refine (t_fallsI v (by rw [nI_toInt (by omega)]; omega)).eq R (fun M R => ?_)
  refine (t_lowA (by decide)).eq R (fun M R => ?_)
  refine (t_pushForA (by decide)).eq R (fun M R => ?_)
  refine (t_freeA (by decide)).eq R (fun M R => ?_)
  refine (t_scriptA (by decide)).eq R (fun M R => ?_)
  refine (t_scriptB 1 100000 rfl (by decide) rfl (by decide) (by decide)).eq R (fun M R => ?_)
  refine (t_simA (by decide)).eq R (fun M R => ?_)
  refine (t_saveI (by decide)).eq R (fun M R => ?_)
  refine (t_restoreI (by decide)).eq R (fun M R => ?_)
  exact (t_appendA (by decide)).eq R (fun M R => k _ R)

theorem pn_of {g : Page} (h : 0 ≤ (g 9).toInt) : (g 9).toInt = pn g := by unfold pn; omega
theorem rn_of {g : Page} (h : 0 ≤ (g 11).toInt) : (g 11).toInt = rn g := by unfold rn; omega
theorem s5_isPin {x : Int32} {M : Mem} {Q : Int32 → Mem → Prop} (v9 : 0 ≤ (M 120 9).toInt ∧ (M 120 9).toInt ≤ 40) (k1 : ∀ n, n < pn (M 120) → x = nI n → Q 1 M) (k0 : ¬ (0 ≤ x.toInt ∧ x.toInt < pn (M 120)) → Q 0 M) : wp_X5_isPin x M Q := by
  simp only [wp_X5_isPin, forall_eq]
  have e := pn_of v9.1
  have es : (M 120 9 - 1).toInt = pn (M 120) - 1 := by rw [i32_sub (by rw [i1]; omega) (by rw [i1]; omega), i1, e]
  refine s5_in32 0 (pn (M 120) - 1) rfl (by rw [i64_of32, es]) (fun a b => ⟨rfl, k1 x.toInt.toNat (by omega) (nI_of_toInt a)⟩) (fun c => ⟨rfl, k0 (by omega)⟩)
theorem s5_isReading {x : Int32} {M : Mem} {Q : Int32 → Mem → Prop} (v9 : 0 ≤ (M 120 11).toInt ∧ (M 120 11).toInt ≤ 20) (k1 : ∀ n, n < rn (M 120) → x = nI n → Q 1 M) (k0 : ¬ (0 ≤ x.toInt ∧ x.toInt < rn (M 120)) → Q 0 M) : wp_X5_isReading x M Q := by
  simp only [wp_X5_isReading, forall_eq]
  have e := rn_of v9.1
  have es : (M 120 11 - 1).toInt = rn (M 120) - 1 := by rw [i32_sub (by rw [i1]; omega) (by rw [i1]; omega), i1, e]
  refine s5_in32 0 (rn (M 120) - 1) rfl (by rw [i64_of32, es]) (fun a b => ⟨rfl, k1 x.toInt.toNat (by omega) (nI_of_toInt a)⟩) (fun c => ⟨rfl, k0 (by omega)⟩)
theorem d2' : (2 : Int32).toInt = 2 := rfl
theorem eq3 {x : Int32} (h : 0 ≤ x.toInt ∧ x.toInt ≤ 2) : x = 0 ∨ x = 1 ∨ x = 2 := by
  rw [i32_eq, i32_eq, i32_eq, i0, i1, d2']; omega
/-- pin -/
theorem c_pin {x y : Int32} {M : Mem} {V1 V2 : Prop} {K : Mem → Prop} (I : LInv M) (hv1 : V1) (hv2 : V2) (k : ∀ M', LInv M' → K M') :
    wp_L_pin x y M (fun r7 M6 => V1 ∧ V2 ∧ wp_X5_pin x y M6 (Tail r7 K)) := by
  obtain ⟨⟨h, s, e, v⟩, -⟩ := id I
  obtain ⟨-, -, -, -, -, -, -, -, v9, -, -, vp, -⟩ := id v
  have hp : pn (M 120) ≤ 40 := by unfold pn; omega
  have e9 : h 9 = M 120 9 := e.lo (by decide)
  have en := pn_of v9.1
  have bad1 : ¬ (0 ≤ x.toInt ∧ x.toInt < pn (M 120)) → V1 ∧ V2 ∧ wp_X5_pin x y M (Tail 1 K) := fun c => by
    refine ⟨hv1, hv2, ?_⟩
    simp only [wp_X5_pin, forall_eq]
    refine s5_isPin v9 (fun n h1 h2 => absurd (by rw [h2, nI_toInt (by omega)]; omega) c) (fun _ => ⟨fun z => absurd rfl z, fun _ => s5_ref1 ⟨fun z => absurd z (by decide), fun _ => tail_ref I (by decide) k⟩⟩)
  have bad2 : ∀ n, n < pn (M 120) → x = nI n → ¬ (0 ≤ y.toInt ∧ y.toInt ≤ 2) → V1 ∧ V2 ∧ wp_X5_pin x y M (Tail 2 K) := fun n hn hx c => by
    refine ⟨hv1, hv2, ?_⟩
    simp only [wp_X5_pin, forall_eq]
    refine s5_isPin v9 (fun n h1 h2 => ⟨fun _ => s5_in32 0 2 rfl rfl (fun a b => absurd ⟨a, b⟩ c) (fun _ => ⟨fun z => absurd rfl z, fun _ => s5_ref2 ⟨fun z => absurd z (by decide), fun _ => tail_ref I (by decide) k⟩⟩), fun z => absurd z (by decide)⟩) (fun z => absurd (by rw [hx, nI_toInt (by omega)]; omega) z)
  have good : ∀ n, n < pn (M 120) → x = nI n → 0 ≤ y.toInt → y.toInt ≤ 2 → V1 ∧ V2 ∧ wp_X5_pin x y (mup M 126 0 (if y = 0 then M 120 (12 + 2 * n) else if y = 1 then M 120 (13 + 2 * n) else aroundF (M 120 (12 + 2 * n) - M 120 5))) (Tail 0 K) := fun n hn hx c1 c2 => by
    refine ⟨hv1, hv2, ?_⟩
    simp only [wp_X5_pin, forall_eq]
    have m : ∀ a, mup M 126 0 a 120 = M 120 := fun a => by rw [mup_ne (by omega)]
    have m2 : ∀ a b, mup (mup M 126 0 a) 117 0 b 120 = M 120 := fun a b => by rw [mup_ne (by omega), mup_ne (by omega)]
    subst hx
    refine s5_isPin (by rw [m]; exact v9) (fun n2 h1 h2 => ⟨fun _ => s5_in32 0 2 rfl rfl (fun a b => ⟨fun _ => s5_ref0 ⟨fun _ => ?_, fun z => absurd rfl z⟩, fun z => absurd z (by decide)⟩) (fun z => absurd ⟨c1, c2⟩ z), fun z => absurd z (by decide)⟩) (fun z => absurd (by rw [m, nI_toInt (by omega)]; omega) z)
    rw [m2, i32_le, d2', nI_lit2, nI_12]
    have f : ∀ a : Nat, a < 2 → nI (12 + 2 * n) + nI a = nI (12 + 2 * n + a) := fun a _ => nI_add _ _
    rcases eq3 ⟨c1, c2⟩ with z | z | z <;> subst z
    · refine ⟨fun z => absurd z (by decide), fun _ => ?_⟩
      rw [show (0 : Int32) = nI 0 from rfl, f 0 (by decide), nI_clamp (by omega)]
      exact ⟨vp212 (by omega), tail_q I k⟩
    · refine ⟨fun z => absurd z (by decide), fun _ => ?_⟩
      rw [show (1 : Int32) = nI 1 from rfl, f 1 (by decide), nI_clamp (by omega), show 12 + 2 * n + 1 = 13 + 2 * n by omega]
      exact ⟨vp212 (by omega), tail_q I k⟩
    · refine ⟨fun _ => ?_, fun z => absurd (by decide) z⟩
      rw [nI_clamp (by omega)]
      exact ⟨vp212 (by omega), s_around5 (tail_q I k)⟩
  simp only [wp_L_pin, wp_X4_pin, wp_X4_checkPin, forall_eq]
  rw [s_lt0, s_lt0, i32_le, d2', i32_lt, s.pins, e9, en]
  refine ⟨fun c => ⟨fun _ => bad1 (by omega), fun z => absurd z (by decide), Or.inl trivial⟩, fun c => ⟨fun c2 => ?_, fun c2 => ⟨fun _ => bad1 (by omega), fun z => absurd z (by decide), Or.inl trivial⟩⟩⟩
  have hx : x = nI x.toInt.toNat := nI_of_toInt (by omega)
  have hn : x.toInt.toNat < pn (M 120) := by omega
  have B := bad2 _ hn hx
  have G := good _ hn hx
  generalize x.toInt.toNat = n at hx hn B G
  refine ⟨fun c3 => ⟨fun z => absurd z (by decide), fun _ => B (by omega), Or.inr trivial⟩, fun c3 => ⟨fun c4 => ?_, fun c4 => ⟨fun z => absurd z (by decide), fun _ => B (by omega), Or.inr trivial⟩⟩⟩
  replace G := G (by omega) (by omega)
  have g2 := e.2.1 n hn
  rw [hx] at G ⊢
  rw [nI_clamp (by omega), s.dir, s.place (by omega), s.stand (by omega), g2.1, g2.2, e.lo (by decide)]
  refine ⟨fun z => ⟨vp_in_nI (by omega) (by decide), ?_⟩, fun z => ⟨fun z2 => ⟨vp_in_nI (by omega) (by decide), ?_⟩, fun z2 => ⟨vp_in_nI (by omega) (by decide), s_around ?_⟩⟩⟩
  · rw [if_pos z] at G; exact G
  · rw [if_neg z, if_pos z2] at G; exact G
  · rw [if_neg z, if_neg z2] at G; exact G
/-- reading -/
theorem c_reading {x y : Int32} {M : Mem} {V1 V2 : Prop} {K : Mem → Prop} (I : LInv M) (hv1 : V1) (hv2 : V2) (k : ∀ M', LInv M' → K M') :
    wp_L_reading x y M (fun r7 M6 => V1 ∧ V2 ∧ wp_X5_reading x y M6 (Tail r7 K)) := by
  obtain ⟨⟨h, s, e, v⟩, -⟩ := id I
  obtain ⟨-, -, -, -, -, -, -, -, -, -, v11, -⟩ := id v
  have hp : rn (M 120) ≤ 20 := by unfold rn; omega
  have e11 : h 11 = M 120 11 := e.lo (by decide)
  have en := rn_of v11.1
  have bad1 : ¬ (0 ≤ x.toInt ∧ x.toInt < rn (M 120)) → V1 ∧ V2 ∧ wp_X5_reading x y M (Tail 1 K) := fun c => by
    refine ⟨hv1, hv2, ?_⟩
    simp only [wp_X5_reading, forall_eq]
    refine s5_isReading v11 (fun n h1 h2 => absurd (by rw [h2, nI_toInt (by omega)]; omega) c) (fun _ => ⟨fun z => absurd rfl z, fun _ => s5_ref1 ⟨fun z => absurd z (by decide), fun _ => tail_ref I (by decide) k⟩⟩)
  have bad2 : ∀ n, n < rn (M 120) → x = nI n → ¬ (0 ≤ y.toInt ∧ y.toInt ≤ 2) → V1 ∧ V2 ∧ wp_X5_reading x y M (Tail 2 K) := fun n hn hx c => by
    refine ⟨hv1, hv2, ?_⟩
    simp only [wp_X5_reading, forall_eq]
    refine s5_isReading v11 (fun n h1 h2 => ⟨fun _ => s5_in32 0 2 rfl rfl (fun a b => absurd ⟨a, b⟩ c) (fun _ => ⟨fun z => absurd rfl z, fun _ => s5_ref2 ⟨fun z => absurd z (by decide), fun _ => tail_ref I (by decide) k⟩⟩), fun z => absurd z (by decide)⟩) (fun z => absurd (by rw [hx, nI_toInt (by omega)]; omega) z)
  have good : ∀ n, n < rn (M 120) → x = nI n → ∀ y', y' < 3 → y = nI y' → V1 ∧ V2 ∧ wp_X5_reading x y (mup M 126 0 (M 120 (152 + (3 * n + y')))) (Tail 0 K) := fun n hn hx y' hy' hy => by
    refine ⟨hv1, hv2, ?_⟩
    simp only [wp_X5_reading, forall_eq]
    have m : ∀ a, mup M 126 0 a 120 = M 120 := fun a => by rw [mup_ne (by omega)]
    have m2 : ∀ a b, mup (mup M 126 0 a) 117 0 b 120 = M 120 := fun a b => by rw [mup_ne (by omega), mup_ne (by omega)]
    subst hx
    subst hy
    refine s5_isReading (by rw [m]; exact v11) (fun n2 h1 h2 => ⟨fun _ => s5_in32 0 2 rfl rfl (fun a b => ⟨fun _ => s5_ref0 ⟨fun _ => ?_, fun z => absurd rfl z⟩, fun z => absurd z (by decide)⟩) (fun z => absurd (by rw [nI_toInt (by omega)]; omega) z), fun z => absurd z (by decide)⟩) (fun z => absurd (by rw [m, nI_toInt (by omega)]; omega) z)
    rw [m2, nI_lit3, show (152 : Int32) = nI 152 from rfl, nI_addn, nI_addn, nI_clamp (by omega), Nat.add_assoc]
    exact ⟨vp212 (by omega), tail_q I k⟩
  simp only [wp_L_reading, wp_X4_reading, wp_X4_checkReading, forall_eq]
  rw [s_lt0, s_lt0, i32_le, d2', i32_lt, s.reads, e11, en]
  refine ⟨fun c => ⟨fun _ => bad1 (by omega), fun z => absurd z (by decide), Or.inl trivial⟩, fun c => ⟨fun c2 => ?_, fun c2 => ⟨fun _ => bad1 (by omega), fun z => absurd z (by decide), Or.inl trivial⟩⟩⟩
  have hx : x = nI x.toInt.toNat := nI_of_toInt (by omega)
  have hn : x.toInt.toNat < rn (M 120) := by omega
  have B := bad2 _ hn hx
  have G := good _ hn hx
  generalize x.toInt.toNat = n at hx hn B G
  refine ⟨fun c3 => ⟨fun z => absurd z (by decide), fun _ => B (by omega), Or.inr trivial⟩, fun c3 => ⟨fun c4 => ?_, fun c4 => ⟨fun z => absurd z (by decide), fun _ => B (by omega), Or.inr trivial⟩⟩⟩
  have hy : y = nI y.toInt.toNat := nI_of_toInt (by omega)
  have hy' : y.toInt.toNat < 3 := by omega
  replace G := G _ hy' hy
  generalize y.toInt.toNat = y' at hy hy' G
  have g2 := e.2.2.2 (3 * n + y') (by omega)
  rw [hx, hy] at G ⊢
  rw [nI_lit3, nI_addn, nI_clamp (by omega), s.row (by omega), g2]
  exact ⟨vp_in_nI (by omega) (by decide), G⟩

def isR (g : Page) (x : Int32) : Prop := 0 ≤ x.toInt ∧ x.toInt < rn g
theorem isR_nI {g : Page} {x : Int32} (h : isR g x) : ∃ n, n < rn g ∧ x = nI n := ⟨x.toInt.toNat, by have := h.1; have := h.2; omega, nI_of_toInt h.1⟩
theorem s_pair {x y : Int32} {h g : Page} {M : Mem} {Q : Mem → Prop} {EQ : String → Mem → Prop} (s : St M 0 h) (e : PEq h g) (v : Val g)
    (k : ∀ a b, a < b → b < rn g → x = nI a → y = nI b → Q M) (k1 : ¬ (isR g x ∧ isR g y) → EQ "java/lang/IndexOutOfBoundsException" M) (k2 : isR g x → isR g y → ¬ x < y → EQ "java/lang/IllegalArgumentException" M) : wp_X4_checkReadings x y M Q EQ := by
  obtain ⟨-, -, -, -, -, -, -, -, -, -, v11, -⟩ := id v
  have e11 : M (6 * 0) 11 = g 11 := by rw [s.reads, e.lo (by decide)]
  have en := rn_of v11.1
  simp only [wp_X4_checkReadings, wp_X4_checkReading]
  rw [e11, s_lt0, i32_lt, en, s_lt0, i32_lt (y := g 11), en, i32_lt]
  unfold isR at k1 k2
  refine ⟨fun c => k1 (by omega), fun c => ⟨fun c2 => ⟨fun c3 => k1 (by omega), fun c3 => ⟨fun c4 => ⟨fun c5 => ?_, fun c5 => k2 (by omega) (by omega) (by rw [i32_lt]; omega)⟩, fun c4 => k1 (by omega)⟩⟩, fun c2 => k1 (by omega)⟩⟩
  have a := nI_of_toInt (x := x) (by omega)
  have b := nI_of_toInt (x := y) (by omega)
  exact k _ _ (by omega) (by omega) a b
theorem s5_pair {x y : Int32} {M : Mem} {Q : Int32 → Mem → Prop} (v : Val (M 120))
    (k : ∀ a b, a < b → b < rn (M 120) → x = nI a → y = nI b → Q 0 M) (k1 : ¬ (isR (M 120) x ∧ isR (M 120) y) → Q 1 M) (k2 : isR (M 120) x → isR (M 120) y → ¬ x < y → Q 2 M) : wp_X5_pair x y M Q := by
  obtain ⟨-, -, -, -, -, -, -, -, -, -, v11, -⟩ := id v
  have hr : rn (M 120) ≤ 20 := by unfold rn; omega
  unfold wp_X5_pair
  have tr : ∀ (n : Nat) (z : Int32), n < rn (M 120) → z = nI n → isR (M 120) z := fun n z h e => by
    unfold isR; rw [e, nI_toInt (by omega)]; omega
  refine s5_isReading v11 (fun n hn hx => ⟨fun z => absurd z (by decide), fun _ => ?_⟩) (fun c => ⟨fun _ => k1 (fun z => c z.1), fun z => absurd rfl z⟩)
  refine s5_isReading v11 (fun m hm hy => ⟨fun _ => ⟨fun c => k n m ?_ hm hx hy, fun c => k2 (tr n x hn hx) (tr m y hm hy) c⟩, fun z => absurd z (by decide)⟩) (fun c => ⟨fun z => absurd rfl z, fun _ => k1 (fun z => c z.2)⟩)
  rw [hx, hy, nI_ltI (by omega) (by omega)] at c
  exact c
def mvF (g : Page) (a b : Nat) : Int32 := aroundF (g (153 + 3 * b) - g (153 + 3 * a))
theorem s5_moveOf {a b : Nat} {M : Mem} {Q : Int32 → Mem → Prop} (ha : a < 20) (hb : b < 20) (k : Q (mvF (M 120) a b) M) : wp_X5_moveOf (nI a) (nI b) M Q := by
  simp only [wp_X5_moveOf, forall_eq]
  have f : ∀ n, (152 : Int32) + 3 * nI n + 1 = nI (153 + 3 * n) := fun n => by
    rw [nI_lit3, show (152 : Int32) = nI 152 from rfl, nI_addn, nI_1]; congr 1; omega
  rw [f, f, nI_clamp (by omega), nI_clamp (by omega)]
  exact ⟨vp212 (by omega), vp212 (by omega), s_around5 k⟩
theorem PEq.row {h g : Page} (e : PEq h g) {a y : Nat} (ha : a < rn g) (hy : y < 3) : h (152 + 3 * a + y) = g (152 + 3 * a + y) := by
  have := e.2.2.2 (3 * a + y) (by omega)
  rw [← Nat.add_assoc] at this
  exact this
theorem PEq.way {h g : Page} (e : PEq h g) {a : Nat} (ha : a < rn g) : h (153 + 3 * a) = g (153 + 3 * a) := by
  have := e.row ha (y := 1) (by decide)
  rw [show 152 + 3 * a + 1 = 153 + 3 * a by omega] at this
  exact this
theorem PEq_mv {h g : Page} (e : PEq h g) {a b : Nat} (ha : a < rn g) (hb : b < rn g) : mvF h a b = mvF g a b := by
  unfold mvF; rw [e.way ha, e.way hb]
/-- move -/
theorem c_move {x y : Int32} {M : Mem} {V1 V2 : Prop} {K : Mem → Prop} (I : LInv M) (hv1 : V1) (hv2 : V2) (k : ∀ M', LInv M' → K M') :
    wp_L_move x y M (fun r7 M6 => V1 ∧ V2 ∧ wp_X5_move x y M6 (Tail r7 K)) := by
  obtain ⟨⟨h, s, e, v⟩, -⟩ := id I
  have hr : rn (M 120) ≤ 20 := by obtain ⟨-, -, -, -, -, -, -, -, -, -, v11, -⟩ := id v; unfold rn; omega
  simp only [wp_L_move, wp_X4_move, forall_eq]
  refine s_pair s e v (fun a b hab hb hx hy => ?_) (fun c => ⟨fun _ => ⟨hv1, hv2, ?_⟩, fun z => absurd z (by decide), Or.inl rfl⟩) (fun c1 c2 c3 => ⟨fun z => absurd z (by decide), fun _ => ⟨hv1, hv2, ?_⟩, Or.inr rfl⟩)
  · subst hx hy
    refine s_moveBetween s (by omega) (by omega) ⟨hv1, hv2, ?_⟩
    have em : aroundF (h (153 + 3 * b) - h (153 + 3 * a)) = mvF (M 120) a b := PEq_mv e (by omega) hb
    rw [em]
    have m : ∀ a, mup M 126 0 a 120 = M 120 := fun a => by rw [mup_ne (by decide)]
    simp only [wp_X5_move]
    have i1' : isR (M 120) (nI a) := ⟨by rw [nI_toInt (by omega)]; omega, by rw [nI_toInt (by omega)]; omega⟩
    have i2' : isR (M 120) (nI b) := ⟨by rw [nI_toInt (by omega)]; omega, by rw [nI_toInt (by omega)]; omega⟩
    refine s5_pair (by rw [m]; exact v) (fun _ _ _ _ _ _ => s5_ref0 ⟨fun _ => s5_moveOf (by omega) (by omega) ?_, fun z => absurd rfl z⟩) (fun c => absurd (by rw [m]; exact ⟨i1', i2'⟩) c) (fun _ _ c => absurd ((nI_ltI (by omega) (by omega)).mpr hab) c)
    rw [mup_ne (show 120 ≠ 117 by decide), m]
    exact tail_q I k
  · simp only [wp_X5_move]
    refine s5_pair v (fun a b hab hb hx hy => absurd ?_ c) (fun _ => s5_ref1 ⟨fun z => absurd z (by decide), fun _ => tail_ref I (by decide) k⟩) (fun a b _ => absurd ⟨a, b⟩ c)
    subst hx hy
    exact ⟨⟨by rw [nI_toInt (by omega)]; omega, by rw [nI_toInt (by omega)]; omega⟩, ⟨by rw [nI_toInt (by omega)]; omega, by rw [nI_toInt (by omega)]; omega⟩⟩
  · simp only [wp_X5_move]
    refine s5_pair v (fun a b hab hb hx hy => absurd ?_ c3) (fun c => absurd ⟨c1, c2⟩ c) (fun _ _ _ => s5_ref2 ⟨fun z => absurd z (by decide), fun _ => tail_ref I (by decide) k⟩)
    subst hx hy
    exact (nI_ltI (by omega) (by omega)).mpr hab

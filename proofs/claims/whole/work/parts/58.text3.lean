def compl (n : Nat) : Prop := 13 ≤ n ∧ (n - 13) % 4 = 0
/-- s is where the first error is -/
def errAt (t : Page) (n s : Nat) : Prop := s ≤ n ∧ upTo t s ∧ (s < n → ¬ alw t s) ∧ (s = n → ¬ compl n)
theorem errAt.uniq {t : Page} {n s s' : Nat} (h : errAt t n s) (h' : errAt t n s') : s = s' := by
  obtain ⟨a1, a2, a3, -⟩ := h
  obtain ⟨b1, b2, b3, -⟩ := h'
  by_cases c : s < s'
  · exact absurd (b2 s c) (a3 (by omega))
  · by_cases c2 : s' < s
    · exact absurd (a2 s' c2) (b3 (by omega))
    · omega
theorem errAt.not {t : Page} {n s : Nat} (h : errAt t n s) : ¬ (upTo t n ∧ compl n) := by
  rintro ⟨u, c⟩
  obtain ⟨a1, a2, a3, a4⟩ := h
  by_cases e : s = n
  · exact a4 e c
  · exact a3 (by omega) (u s (by omega))
theorem eqn {x y : Nat} (hx : x < 2147483648) (hy : y < 2147483648) : nI x = nI y ↔ x = y := by rw [i32_eq, nI_toInt hx, nI_toInt hy]; omega
theorem s_allowed {i n : Nat} {t : Page} {M : Mem} {Q : Int32 → Mem → Prop} (hn : n ≤ 100) (hi : i < n) (e1 : M 109 1 = nI n) (e2 : M 110 = t) (u : upTo t i) (k1 : alw t i → Q 1 M) (k0 : ¬ alw t i → Q 0 M) : wp_X3_isAllowed (nI i) M Q := by
  simp only [wp_X3_isAllowed, forall_eq]
  rw [show (2 : Int32) = nI 2 from rfl, show (13 : Int32) = nI 13 from rfl, show (93 : Int32) = nI 93 from rfl, nI_leI (by omega) (by omega), nI_leI (by omega) (by omega), nI_ltI (by omega) (by omega), nI_clamp (by omega), e2]
  have z : nI i = 0 ↔ i = 0 := eqn (y := 0) (by omega) (by omega)
  have vi : vp_in (nI i) 100 := vp_in_nI (by omega) (by decide)
  rw [z]
  refine ⟨fun c0 => ⟨fun c2 => ⟨fun c13 => ⟨fun c93 => ?_, fun c93 => k0 (fun y => by obtain ⟨-, -, -, -, -, y, -⟩ := y; omega)⟩, fun c13 => ?_⟩, fun c2 => ⟨vi, fun c => ?_, fun c => ⟨vi, fun c' => ?_, fun c' => ?_⟩⟩⟩, fun c0 => ⟨vi, fun c => ?_, fun c => ?_⟩⟩
  · have b : nI i - nI 13 = nI (i - 13) := by rw [Int32.sub_eq_iff_eq_add, nI_addn]; congr 1; omega
    have b2 : nI (i - 13) - nI (i - 13) / 4 * 4 = nI ((i - 13) % 4) := nI_mod (b := 4) (by omega) (by decide) (by decide)
    have z4 : nI ((i - 13) % 4) = 0 ↔ (i - 13) % 4 = 0 := eqn (y := 0) (by omega) (by omega)
    rw [b, b2, z4]
    refine ⟨fun c4 => s_isD (n := n) (by omega) e2 (fun d => ⟨fun y => absurd y (by decide), fun _ => ?_⟩) (fun d => ⟨fun _ => k0 (fun y => ?_), fun y => absurd rfl y⟩), fun c4 => ⟨vi, fun c => k0 (fun y => ?_), fun c => k1 ?_⟩⟩
    · refine s_placeFits hn c13 c93 c4 hi e1 e2 u d (fun f => ⟨fun y => absurd y (by decide), fun _ => k1 ?_⟩) (fun f => ⟨fun _ => k0 (fun y => ?_), fun y => absurd rfl y⟩)
      · refine ⟨fun h => absurd h (by omega), fun h => absurd h (by omega), fun _ h => absurd h (by omega), fun _ h => absurd h (by omega), fun _ h => absurd h (by omega), c93, fun _ h => absurd h c4, fun _ _ => ⟨d, f⟩⟩
      · obtain ⟨-, -, -, -, -, -, -, y⟩ := y
        exact f (y c13 c4).2
    · obtain ⟨-, -, -, -, -, -, -, y⟩ := y
      exact d (y c13 c4).1
    · obtain ⟨-, -, -, -, -, -, y, -⟩ := y
      exact c (y c13 c4)
    · refine ⟨fun h => absurd h (by omega), fun h => absurd h (by omega), fun _ h => absurd h (by omega), fun _ h => absurd h (by omega), fun _ h => absurd h (by omega), c93, fun _ _ => c, fun _ h => absurd c4 h⟩
  · refine s_isD (n := n) (by omega) e2 (fun d => ⟨fun y => absurd y (by decide), fun _ => ?_⟩) (fun d => ⟨fun _ => k0 (fun y => ?_), fun y => absurd rfl y⟩)
    · refine s_setFits hn (by omega) (by omega) hi e1 e2 u d (fun f1 f2 => ⟨fun y => absurd y (by decide), fun _ => k1 ?_⟩) (fun f => ⟨fun _ => k0 (fun y => ?_), fun y => absurd rfl y⟩)
      · refine ⟨fun h => absurd h (by omega), fun h => absurd h (by omega), fun _ h => ⟨d, f1 h⟩, fun h1 h2 => ⟨d, f2 h1 h2⟩, fun _ _ => d, by omega, fun h => absurd h (by omega), fun h => absurd h (by omega)⟩
      · obtain ⟨-, -, y1, y2, -⟩ := y
        exact f ⟨fun h => (y1 (by omega) h).2, fun h1 h2 => (y2 h1 h2).2⟩
    · obtain ⟨-, -, y1, y2, y3, -⟩ := y
      by_cases h4 : i < 4
      · exact d (y1 (by omega) h4).1
      · by_cases h7 : i < 7
        · exact d (y2 (by omega) h7).1
        · exact d (y3 (by omega) (by omega))
  · have : i = 1 := by omega
    subst this
    exact k1 ⟨fun h => absurd h (by omega), fun _ => Or.inl c, fun h => absurd h (by omega), fun h => absurd h (by omega), fun h => absurd h (by omega), by omega, fun h => absurd h (by omega), fun h => absurd h (by omega)⟩
  · have : i = 1 := by omega
    subst this
    exact k0 (fun y => by obtain ⟨-, y, -⟩ := y; rcases y rfl with w | w; exact c w; exact c' w)
  · have : i = 1 := by omega
    subst this
    exact k1 ⟨fun h => absurd h (by omega), fun _ => Or.inr c', fun h => absurd h (by omega), fun h => absurd h (by omega), fun h => absurd h (by omega), by omega, fun h => absurd h (by omega), fun h => absurd h (by omega)⟩
  · subst c0
    exact k0 (fun y => c (y.1 rfl))
  · subst c0
    exact k1 ⟨fun _ => c, fun h => absurd h (by omega), fun h => absurd h (by omega), fun h => absurd h (by omega), fun h => absurd h (by omega), by omega, fun h => absurd h (by omega), fun h => absurd h (by omega)⟩
/-- the class's first error -/
theorem s_firstError {n : Nat} {t : Page} {M : Mem} {Q : Int32 → Mem → Prop} (hn : n ≤ 100) (e1 : M 109 1 = nI n) (e2 : M 110 = t) (kE : ∀ s, errAt t n s → Q (nI s) M) (kN : upTo t n → compl n → Q (-9) M) : wp_X3_firstError M Q := by
  refine ⟨fun w M' => M' = M ∧ ∃ i, i ≤ n ∧ w = nI i ∧ upTo t i, fun w _ => 1000 - w.toNatClampNeg, ⟨rfl, 0, Nat.zero_le _, rfl, fun j hj => absurd hj (by omega)⟩, ?_⟩
  rintro w M' ⟨rfl, i, hi, rfl, u⟩
  simp only [forall_eq]
  rw [e1, nI_leI (by omega) (by omega), show (13 : Int32) = nI 13 from rfl, nI_ltI (by omega) (by omega)]
  refine ⟨fun c => ⟨fun c2 => ?_, fun c2 => ?_⟩, fun c => ?_⟩
  · have : i = n := by omega
    subst this
    exact kE i ⟨Nat.le_refl _, u, fun h => absurd h (by omega), fun _ h => absurd h.1 (by omega)⟩
  · have : i = n := by omega
    subst this
    have b : nI i - nI 13 = nI (i - 13) := by rw [Int32.sub_eq_iff_eq_add, nI_addn]; congr 1; omega
    have b2 : nI (i - 13) - nI (i - 13) / 4 * 4 = nI ((i - 13) % 4) := nI_mod (b := 4) (by omega) (by decide) (by decide)
    have z4 : nI ((i - 13) % 4) = 0 ↔ (i - 13) % 4 = 0 := eqn (y := 0) (by omega) (by omega)
    rw [b, b2, z4]
    exact ⟨fun h => kE i ⟨Nat.le_refl _, u, fun h => absurd h (by omega), fun _ q => h q.2⟩, fun h => kN u ⟨by omega, h⟩⟩
  · refine s_allowed hn (by omega) e1 e2 u (fun a => ⟨fun _ => ⟨⟨rfl, i + 1, by omega, nI_1 i, fun j hj => ?_⟩, mu_lt (by omega) (by decide)⟩, fun y => absurd y (by decide)⟩) (fun a => ⟨fun y => absurd rfl y, fun _ => ?_⟩)
    · by_cases e : j = i
      · subst e; exact a
      · exact u j (by omega)
    · exact kE i ⟨hi, u, fun _ => a, fun h => absurd h (by omega)⟩

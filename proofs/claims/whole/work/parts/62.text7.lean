/-- the reference reads all -/
theorem s5_readAll {n : Nat} {t : Page} {M : Mem} {Q : Int32 → Mem → Prop} (hn : n ≤ 100) (e2 : M 117 2 = nI n) (et : M 118 = t) (hc : ∀ j, j < n → 0 ≤ (t j).toInt ∧ (t j).toInt ≤ 255)
    (kE : ∀ M', Fail M t n M' → Q 0 M') (kN : upTo t n → compl n → Q 1 (Wm M n (ldN t (ldG t (M 119)) ((n - 13) / 4)))) : wp_X5_readAll M Q := by
  have w2 : ∀ s g, Wm M s g 117 2 = nI n := fun s g => by rw [Wm_f (by decide), e2]
  have w118 : ∀ s g, Wm M s g 118 = t := fun s g => by rw [Wm_ne (by decide) (by decide), et]
  have w118' : ∀ s g j, Wm M s g 118 j = t j := fun s g j => by rw [w118]
  simp only [wp_X5_readAll, forall_eq]
  refine s5_begin ?_
  have m119 : mup M 117 3 0 119 = M 119 := mup_ne (by decide)
  have W0 : va_up (mup M 117 3 0) 119 (begF (mup M 117 3 0 119)) = Wm M 0 (begF (M 119)) := by rw [m119]; rfl
  rw [W0]
  generalize hg0 : begF (M 119) = g0
  have b9 : g0 9 = 0 := by rw [← hg0]; rfl
  have v9 : ∀ k x, k ≠ 9 → 0 ≤ (upd g0 k x 9).toInt ∧ (upd g0 k x 9).toInt ≤ 40 := fun k x h => by rw [updE, if_neg (by omega), b9]; decide
  have no0 : ∀ s, s < 13 → ¬ compl s := fun s h c => by have := c.1; omega
  -- sign 0
  refine s5_eat (x := 70) hn (Nat.zero_le _) (w2 _ _) Wm_3 (fun h1 h2 => ⟨fun _ => ?_, fun z => absurd z (by decide)⟩) (fun h => ⟨fun z => absurd rfl z, fun _ => kE _ ⟨0, g0, rfl, Nat.zero_le _, fun i hi => absurd hi (by omega), fun hs a => h hs (by rw [w118']; exact a.1 rfl), fun hs => no0 _ (by omega)⟩⟩)
  rw [w118'] at h2
  have a0 : alw t 0 := ⟨fun _ => h2, fun h => absurd h (by omega), fun h => absurd h (by omega), fun h => absurd h (by omega), fun h => absurd h (by omega), by omega, fun h => absurd h (by omega), fun h => absurd h (by omega)⟩
  have u1 : upTo t 1 := fun i hi => by have : i = 0 := by omega
                                       subst this; exact a0
  have up : ∀ s, upTo t s → alw t s → upTo t (s + 1) := fun s u a i hi => by
    by_cases e : i = s
    · subst e; exact a
    · exact u i (by omega)
  have al1 : t 1 = 43 ∨ t 1 = 45 → alw t 1 := fun h => ⟨fun h => absurd h (by omega), fun _ => h, fun h => absurd h (by omega), fun h => absurd h (by omega), fun h => absurd h (by omega), by omega, fun h => absurd h (by omega), fun h => absurd h (by omega)⟩
  rw [Wm_117]
  refine s5_eat (x := 45) hn (by omega) (w2 _ _) Wm_3 (fun h3 h4 => ?_) (fun h3 => ?_)
  · rw [w118'] at h4
    have hm : t 1 = 45 := h4
    rw [Wm_117]
    refine ⟨fun M' => M' = Wm M 2 g0 ∧ upTo t 2 ∧ 2 ≤ n, ⟨fun _ => ⟨rfl, up 1 u1 (al1 (Or.inr hm)), h3⟩, fun z => absurd z (by decide)⟩, ?_⟩
    sorry
  · sorry

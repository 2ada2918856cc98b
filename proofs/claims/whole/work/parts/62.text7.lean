/-- the reference reads all -/
theorem s5_readAll {n : Nat} {t : Page} {M : Mem} {Q : Int32 → Mem → Prop} (hn : n ≤ 100) (e2 : M 117 2 = nI n) (et : M 118 = t) (hc : ∀ j, j < n → 0 ≤ (t j).toInt ∧ (t j).toInt ≤ 255)
    (kE : ∀ M', Fail M t n M' → Q 0 M') (kN : upTo t n → compl n → Q 1 (Wm M n (ldN t (ldG t (M 119)) ((n - 13) / 4)))) : wp_X5_readAll M Q := by
  have w2 : ∀ s g, Wm M s g 117 2 = nI n := fun s g => by rw [Wm_f (by decide), e2]
  have w118 : ∀ s g, Wm M s g 118 = t := fun s g => by rw [Wm_ne (by decide) (by decide), et]
  have w118' : ∀ s g j, Wm M s g 118 j = t j := fun s g j => by rw [w118]
  simp only [wp_X5_readAll, forall_eq]
  refine s5_begin ?_
  have m119 : mup M 117 3 0 119 = M 119 := mup_ne (by decide)
  have W0 : va_up (mup M 117 3 0) 119 (begF (mup M 117 3 0 119)) = Wm M 0 (begF (M 119)) := by rw [m119]; rfl
  rw [W0]
  generalize hg0 : begF (M 119) = g0
  have b9 : g0 9 = 0 := by rw [← hg0]; rfl
  have v9 : ∀ k x, k ≠ 9 → 0 ≤ (upd g0 k x 9).toInt ∧ (upd g0 k x 9).toInt ≤ 40 := fun k x h => by rw [updE, if_neg (by omega), b9]; decide
  have no0 : ∀ s, s < 13 → ¬ compl s := fun s h c => by have := c.1; omega
  -- sign 0
  refine s5_eat (x := 70) hn (Nat.zero_le _) (w2 _ _) Wm_3 (fun h1 h2 => ⟨fun _ => ?_, fun z => absurd z (by decide)⟩) (fun h => ⟨fun z => absurd rfl z, fun _ => kE _ ⟨0, g0, rfl, Nat.zero_le _, fun i hi => absurd hi (by omega), fun hs a => h hs (by rw [w118']; exact a.1 rfl), fun hs => no0 _ (by omega)⟩⟩)
  rw [w118'] at h2
  have a0 : alw t 0 := ⟨fun _ => h2, fun h => absurd h (by omega), fun h => absurd h (by omega), fun h => absurd h (by omega), fun h => absurd h (by omega), by omega, fun h => absurd h (by omega), fun h => absurd h (by omega)⟩
  have u1 : upTo t 1 := fun i hi => by have : i = 0 := by omega
                                       subst this; exact a0
  have up : ∀ s, upTo t s → alw t s → upTo t (s + 1) := fun s u a i hi => by
    by_cases e : i = s
    · subst e; exact a
    · exact u i (by omega)
  have al1 : t 1 = 43 ∨ t 1 = 45 → alw t 1 := fun h => ⟨fun h => absurd h (by omega), fun _ => h, fun h => absurd h (by omega), fun h => absurd h (by omega), fun h => absurd h (by omega), by omega, fun h => absurd h (by omega), fun h => absurd h (by omega)⟩
  rw [Wm_117]
  have z9 : ∀ s g, g 9 = 0 → 0 ≤ (Wm M s g 119 9).toInt ∧ (Wm M s g 119 9).toInt ≤ 40 := fun s g h => by rw [Wm_self, h]; decide
  have hu : ∀ (g : Page) k x, k ≠ 9 → g 9 = 0 → upd g k x 9 = 0 := fun g k x h h2 => by rw [updE, if_neg (by omega)]; exact h2
  have nl : ∀ a m, upTo t (a + m) → 2 ≤ a → a + m ≤ 13 → num t a m < 10 ^ m := fun a m u h1 h2 => num_lt m (isD_num u h1 h2)
  refine s5_eat (x := 45) hn (by omega) (w2 _ _) Wm_3 (fun h3 h4 => ⟨fun M' => M' = Wm M 2 g0 ∧ upTo t 2 ∧ 2 ≤ n ∧ t 1 = 45, ⟨fun _ => ⟨Wm_117, up 1 u1 (al1 (Or.inr (by rw [w118'] at h4; exact h4))), h3, by rw [w118'] at h4; exact h4⟩, fun z => absurd z (by decide)⟩, ?_⟩)
    (fun h3 => ⟨fun M' => M' = Wm M 2 g0 ∧ upTo t 2 ∧ 2 ≤ n ∧ ¬ t 1 = 45, ⟨fun z => absurd rfl z, fun _ => s5_eat (x := 43) hn (by omega) (w2 _ _) Wm_3 (fun h4 h5 => ⟨fun _ => ⟨Wm_117, up 1 u1 (al1 (Or.inl (by rw [w118'] at h5; exact h5))), h4, by rw [w118'] at h5; rw [h5]; decide⟩, fun z => absurd z (by decide)⟩) (fun h4 => ⟨fun z => absurd rfl z, fun _ => kE _ ⟨1, g0, rfl, by omega, u1, fun hs a => (a.2.1 rfl).elim (fun y => h4 hs (by rw [w118']; exact y)) (fun y => h3 hs (by rw [w118']; exact y)), fun hs => no0 _ (by omega)⟩⟩)⟩, ?_⟩)
  all_goals
    rintro M' ⟨rfl, u2, n2, hm⟩
    refine s5_number (D := 2) (a := 2) (lo := 0) (hi := 90) (fl := 0) (by decide) hn n2 (w2 _ _) Wm_3 (w118 _ _) hc (z9 _ _ b9) (by decide) (by decide) (by decide) u2 hA2 (fun s hs1 hs2 hs3 us hna => ?_) (fun u4 n4 => ?_)
    · rw [Wm_117]
      have F : errAt t n s := ⟨hs3, us, hna, fun h => no0 _ (by omega)⟩
      refine ⟨fun _ => True, ⟨fun _ => trivial, fun _ => trivial⟩, fun w18 _ => ?_⟩
      rw [Wm_119]
      refine ⟨fun w M' => w = -9 ∧ Fail M t n M', ⟨fun z => absurd rfl z, fun _ => ⟨rfl, _, _, rfl, F⟩⟩, ?_⟩
      rintro w M' ⟨rfl, s', g', rfl, F'⟩
      rw [Wm_119]
      have q : ∀ k, Wm M s' (upd g' k (-9)) 119 k = -9 := fun k => by rw [Wm_self, updE, if_pos rfl]
      refine ⟨fun w M' => w = -9 ∧ Fail M t n M', ⟨fun z => absurd (q 1) z, fun _ => ⟨rfl, _, _, rfl, F'⟩⟩, ?_⟩
      rintro w M' ⟨rfl, s', g', rfl, F'⟩
      rw [Wm_119]
      have q : ∀ k, Wm M s' (upd g' k (-9)) 119 k = -9 := fun k => by rw [Wm_self, updE, if_pos rfl]
      refine ⟨fun w M' => w = -9 ∧ Fail M t n M', ⟨fun z => absurd (q 2) z, fun _ => ⟨rfl, _, _, rfl, F'⟩⟩, ?_⟩
      rintro w M' ⟨rfl, s', g', rfl, F'⟩
      rw [Wm_119]
      have q : ∀ k, Wm M s' (upd g' k (-9)) 119 k = -9 := fun k => by rw [Wm_self, updE, if_pos rfl]
      exact ⟨fun z => absurd (q 7) z, fun _ => kE _ ⟨_, _, rfl, F'⟩⟩
    · rw [Wm_117]
      refine ⟨fun w => w = latF t, ⟨fun z => ?_, fun z => ?_⟩, ?_⟩
      · first
          | exact absurd z (by decide)
          | (unfold latF; rw [if_neg hm])
      · first
          | exact absurd rfl z
          | (unfold latF; rw [if_pos hm])
      rintro w18 rfl
      rw [Wm_119]
      have k1 := hu g0 0 (latF t) (by decide) b9
      refine ⟨fun w M' => (w = -9 ∧ Fail M t n M') ∨ (w = nI (num t 4 3) ∧ M' = Wm M 7 (upd g0 0 (latF t)) ∧ upTo t 7 ∧ 7 ≤ n), ⟨fun _ => s5_number (D := 3) (a := 4) (lo := 60) (hi := 900) (fl := 0) (by decide) hn n4 (w2 _ _) Wm_3 (w118 _ _) hc (z9 _ _ k1) (by decide) (by decide) (by decide) u4 hA4 (fun s hs1 hs2 hs3 us hna => Or.inl ⟨rfl, _, _, Wm_117, hs3, us, hna, fun h => no0 _ (by omega)⟩) (fun u7 n7 => Or.inr ⟨rfl, Wm_117, u7, n7⟩), fun z => absurd z (m9 _ (by have := nl 2 2 u4 (by decide) (by decide); omega))⟩, ?_⟩
      rintro w M' (⟨rfl, s', g', rfl, F'⟩ | ⟨rfl, rfl, u7, n7⟩)
      · rw [Wm_119]
        have q : ∀ k, Wm M s' (upd g' k (-9)) 119 k = -9 := fun k => by rw [Wm_self, updE, if_pos rfl]
        refine ⟨fun w M' => w = -9 ∧ Fail M t n M', ⟨fun z => absurd (q 1) z, fun _ => ⟨rfl, _, _, rfl, F'⟩⟩, ?_⟩
        rintro w M' ⟨rfl, s', g', rfl, F'⟩
        rw [Wm_119]
        have q : ∀ k, Wm M s' (upd g' k (-9)) 119 k = -9 := fun k => by rw [Wm_self, updE, if_pos rfl]
        refine ⟨fun w M' => w = -9 ∧ Fail M t n M', ⟨fun z => absurd (q 2) z, fun _ => ⟨rfl, _, _, rfl, F'⟩⟩, ?_⟩
        rintro w M' ⟨rfl, s', g', rfl, F'⟩
        rw [Wm_119]
        have q : ∀ k, Wm M s' (upd g' k (-9)) 119 k = -9 := fun k => by rw [Wm_self, updE, if_pos rfl]
        exact ⟨fun z => absurd (q 7) z, fun _ => kE _ ⟨_, _, rfl, F'⟩⟩
      · rw [Wm_119]
        have k2 := hu _ 1 (nI (num t 4 3)) (by decide) k1
        have q : ∀ s g k x, Wm M s (upd g k x) 119 k = x := fun s g k x => by rw [Wm_self, updE, if_pos rfl]
        have ne1 : ¬ nI (num t 4 3) = -9 := m9 _ (by have := nl 4 3 u7 (by decide) (by decide); omega)
        refine ⟨fun w M' => (w = -9 ∧ Fail M t n M') ∨ (w = nI (num t 7 2) ∧ M' = Wm M 9 (upd (upd g0 0 (latF t)) 1 (nI (num t 4 3))) ∧ upTo t 9 ∧ 9 ≤ n), ⟨fun _ => s5_number (D := 2) (a := 7) (lo := 0) (hi := 99) (fl := 0) (by decide) hn n7 (w2 _ _) Wm_3 (w118 _ _) hc (z9 _ _ k2) (by decide) (by decide) (by decide) u7 hA7 (fun s hs1 hs2 hs3 us hna => Or.inl ⟨rfl, _, _, Wm_117, hs3, us, hna, fun h => no0 _ (by omega)⟩) (fun u9 n9 => Or.inr ⟨rfl, Wm_117, u9, n9⟩), fun z => absurd ((q _ _ _ _).symm.trans z) ne1⟩, ?_⟩
        rintro w M' (⟨rfl, s', g', rfl, F'⟩ | ⟨rfl, rfl, u9, n9⟩)
        · rw [Wm_119]
          have q : ∀ k, Wm M s' (upd g' k (-9)) 119 k = -9 := fun k => by rw [Wm_self, updE, if_pos rfl]
          refine ⟨fun w M' => w = -9 ∧ Fail M t n M', ⟨fun z => absurd (q 2) z, fun _ => ⟨rfl, _, _, rfl, F'⟩⟩, ?_⟩
          rintro w M' ⟨rfl, s', g', rfl, F'⟩
          rw [Wm_119]
          have q : ∀ k, Wm M s' (upd g' k (-9)) 119 k = -9 := fun k => by rw [Wm_self, updE, if_pos rfl]
          exact ⟨fun z => absurd (q 7) z, fun _ => kE _ ⟨_, _, rfl, F'⟩⟩
        · rw [Wm_119]
          have k3 := hu _ 2 (nI (num t 7 2)) (by decide) k2
          have ne2 : ¬ nI (num t 7 2) = -9 := m9 _ (by have := nl 7 2 u9 (by decide) (by decide); omega)
          refine ⟨fun w M' => (w = -9 ∧ Fail M t n M') ∨ (w = nI (num t 9 4) ∧ M' = Wm M 13 (upd (upd (upd g0 0 (latF t)) 1 (nI (num t 4 3))) 2 (nI (num t 7 2))) ∧ upTo t 13 ∧ 13 ≤ n), ⟨fun _ => s5_number (D := 4) (a := 9) (lo := 0) (hi := 9999) (fl := 0) (by decide) hn n9 (w2 _ _) Wm_3 (w118 _ _) hc (z9 _ _ k3) (by decide) (by decide) (by decide) u9 hA9 (fun s hs1 hs2 hs3 us hna => Or.inl ⟨rfl, _, _, Wm_117, hs3, us, hna, fun h => no0 _ (by omega)⟩) (fun u9 n9 => Or.inr ⟨rfl, Wm_117, u9, n9⟩), fun z => absurd ((q _ _ _ _).symm.trans z) ne2⟩, ?_⟩
          rintro w M' (⟨rfl, s', g', rfl, F'⟩ | ⟨rfl, rfl, u13, n13⟩)
          · rw [Wm_119]
            have q : ∀ k, Wm M s' (upd g' k (-9)) 119 k = -9 := fun k => by rw [Wm_self, updE, if_pos rfl]
            exact ⟨fun z => absurd (q 7) z, fun _ => kE _ ⟨_, _, rfl, F'⟩⟩
          · rw [Wm_119]
            have k4 := hu _ 7 (nI (num t 9 4)) (by decide) k3
            have ne3 : ¬ nI (num t 9 4) = -9 := m9 _ (by have := nl 9 4 u13 (by decide) (by decide); omega)
            refine ⟨fun _ => ?_, fun z => absurd ((q _ _ _ _).symm.trans z) ne3⟩
            have eG : upd (upd (upd (upd g0 0 (latF t)) 1 (nI (num t 4 3))) 2 (nI (num t 7 2))) 7 (nI (num t 9 4)) = ldG t (M 119) := by rw [← hg0]; rfl
            rw [eG] at k4 ⊢
            generalize ldG t (M 119) = gL at k4 kN
            refine ⟨fun M' => ∃ k, k ≤ 20 ∧ 13 + 4 * k ≤ n ∧ M' = Wm M (13 + 4 * k) (ldN t gL k) ∧ upTo t (13 + 4 * k), fun M' => 100 - (M' 119 9).toNatClampNeg, ⟨0, by decide, n13, rfl, u13⟩, ?_⟩
            rintro M' ⟨k, hk, nk, rfl, uk⟩
            obtain ⟨l9, lp, lpl⟩ := ld_facts (t := t) k4 k hk
            rw [Wm_self, l9, show (20 : Int32) = nI 20 from rfl, nI_leI (by decide) (by omega), Wm_3, w2, eqn (by omega) (by omega)]
            have fin : ∀ (M2 : Mem), M2 = Wm M (13 + 4 * k) (ldN t gL k) → (13 + 4 * k < n → ¬ alw t (13 + 4 * k)) → (¬ 13 + 4 * k = n → Q 0 M2) ∧ (13 + 4 * k = n → Q 1 M2) := fun M2 hM ha => by
              subst hM
              refine ⟨fun h => kE _ ⟨_, _, rfl, nk, uk, ha, fun h2 => absurd h2 h⟩, fun h => ?_⟩
              have := kN (by rw [← h]; exact uk) ⟨by omega, by omega⟩
              rw [show (n - 13) / 4 = k by omega, ← h] at this
              exact this
            refine ⟨fun c => fin _ rfl (fun _ a => by obtain ⟨-, -, -, -, -, a, -⟩ := a; omega), fun c => ?_⟩
            refine s5_eat (x := 112) hn nk (w2 _ _) Wm_3 (fun h1 h2 => ⟨fun z => absurd z (by decide), fun _ => ?_⟩) (fun h => ⟨fun _ => ?_, fun z => absurd rfl z⟩)
            · rw [w118'] at h2
              have ap : alw t (13 + 4 * k) := ⟨fun h => absurd h (by omega), fun h => absurd h (by omega), fun _ h => absurd h (by omega), fun _ h => absurd h (by omega), fun _ h => absurd h (by omega), by omega, fun _ _ => h2, fun _ h => absurd h (by omega)⟩
              have u14 : upTo t (14 + 4 * k) := by
                have := up _ uk ap
                rw [show 13 + 4 * k + 1 = 14 + 4 * k by omega] at this
                exact this
              rw [Wm_117, show 13 + 4 * k + 1 = 14 + 4 * k by omega]
              refine s5_number (D := 3) (a := 14 + 4 * k) (lo := 0) (hi := 179) (fl := 1) (by decide) hn (by omega) (w2 _ _) Wm_3 (w118 _ _) hc (by rw [Wm_self, l9, nI_toInt (by omega)]; omega) (by decide) (by decide) (by decide) u14 (by rw [Wm_self]; exact hAp (by omega) lp lpl) (fun s hs1 hs2 hs3 us hna => ⟨fun z => absurd rfl z, fun _ => kE _ ⟨_, _, Wm_117, hs3, us, hna, fun h cc => ?_⟩⟩) (fun u17 n17 => ⟨fun _ => ?_, fun z => absurd z (m9 _ ?_)⟩)
              · have := cc.2; omega
              · have e60 : (60 : Int32) * nI (num t (14 + 4 * k) 3) = nI (60 * deg t k) := nI_mul 60 _
                rw [e60, Wm_117]
                refine s5_putPin Wm_self (by rw [l9, nI_toInt (by omega)]; omega) ?_
                rw [Wm_vu]
                have l9' := (ld_facts (t := t) k4 (k + 1) (by omega)).1
                refine ⟨⟨k + 1, by omega, by omega, ?_, ?_⟩, ?_⟩
                · rw [show 14 + 4 * k + 3 = 13 + 4 * (k + 1) by omega]; rfl
                · rw [show 13 + 4 * (k + 1) = 14 + 4 * k + 3 by omega]; exact u17
                · have e : putF (ldN t gL k) (nI (60 * deg t k)) = ldN t gL (k + 1) := rfl
                  rw [e]
                  dsimp only
                  rw [Wm_self, Wm_self, l9, l9', nI_clamp (by omega), nI_clamp (by omega)]
                  omega
              · have := num_lt (t := t) (a := 14 + 4 * k) 3 (fun i hi => u17.dig (by omega) (by omega) (by omega))
                omega
            · rw [Wm_3, w2, eqn (by omega) (by omega)]
              refine fin _ rfl (fun h2 a => h h2 ?_)
              rw [w118']
              obtain ⟨-, -, -, -, -, -, a, -⟩ := a
              exact a (by omega) (by omega)

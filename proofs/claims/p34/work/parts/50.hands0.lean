/-! hands: what it rests on -/
theorem srch_spec {P : Nat → Bool} {val : Nat → Int32} : ∀ N n, (srch P val N n = -9 ∧ ∀ i, n ≤ i → i < n + N → P i = false) ∨ ∃ i, n ≤ i ∧ i < n + N ∧ srch P val N n = val i ∧ P i = true ∧ ∀ j, n ≤ j → j < i → P j = false
  | 0, n => Or.inl ⟨rfl, fun i h1 h2 => absurd h1 (by omega)⟩
  | N + 1, n => by
    unfold srch
    by_cases c : P n = true
    · right
      rw [if_pos c]
      exact ⟨n, Nat.le_refl _, by omega, rfl, c, fun j h1 h2 => absurd h1 (by omega)⟩
    · rw [if_neg c]
      have cf : P n = false := Bool.eq_false_iff.mpr c
      rcases srch_spec (P := P) (val := val) N (n + 1) with ⟨h1, h2⟩ | ⟨i, h1, h2, h3, h4, h5⟩
      · left
        refine ⟨h1, fun i g1 g2 => ?_⟩
        by_cases d : i = n
        · subst d; exact cf
        · exact h2 i (by omega) (by omega)
      · right
        refine ⟨i, by omega, by omega, h3, h4, fun j g1 g2 => ?_⟩
        by_cases d : j = n
        · subst d; exact cf
        · exact h5 j (by omega) g2
theorem m9' {n : Nat} (h : n < 100000) : ¬ nI n = -9 := fun z => by
  rw [i32_eq, nI_toInt (by omega)] at z
  have : (-9 : Int32).toInt = -9 := rfl
  omega
theorem jb {a b : Prop} {x y : Int32} (h : a ↔ b) (hx : (x = 1 ∧ a) ∨ (x = 0 ∧ ¬ a)) (hy : (y = 1 ∧ b) ∨ (y = 0 ∧ ¬ b)) : x = y := by
  rcases hx with ⟨rfl, ha⟩ | ⟨rfl, ha⟩
  · rcases hy with ⟨rfl, hb⟩ | ⟨rfl, hb⟩
    · rfl
    · exact absurd (h.mp ha) hb
  · rcases hy with ⟨rfl, hb⟩ | ⟨rfl, hb⟩
    · exact absurd (h.mpr hb) ha
    · rfl
theorem Rep.noH {M : Mem} {g : Page} {H : Hs} {X : (Nat → Option Page) × (Nat × (Nat → Int32))} (R : Rep M (g, H, X)) (h : H.1 = 0) : Rep M (g, noH, X) := by
  obtain ⟨a, ⟨fr, f1, f2, f3, f4, f5⟩, c⟩ := R
  refine ⟨a, ⟨fr, f1, Nat.zero_le _, f3, ?_, fun t ht => absurd ht (by show ¬ t < 0; omega)⟩, c⟩
  have : M 113 2 = nI H.1 := f4
  rw [this, h]; rfl
theorem t_undo1 {g g' : Page} {X : (Nat → Option Page) × (Nat × (Nat → Int32))} : Does wp_L_tryUndo (g', push1 g noH, X) 0 (g, noH, X) := fun M Q R k =>
  t_undo (K := (g', push1 g noH, X)) (Nat.le_refl 1) M Q R (fun M' R' => k M' (R'.noH rfl))
/-- what a turn does to one pin -/
theorem turn_flag {g : Page} (v : Val g) (f : Int32) : ∃ c, c ≤ 15 ∧ (turnF g f).2.1 = nI c ∧ (∀ k, k < pn g → (turnF g f).1 (13 + 2 * k) = g (13 + 2 * k) ∨ (g (13 + 2 * k) = 1 ∧ (turnF g f).1 (13 + 2 * k) = 0)) ∧ (c = 0 → ∀ k, k < pn g → (turnF g f).1 (13 + 2 * k) = g (13 + 2 * k)) := by
  obtain ⟨c, h1, h2, -, -, -, -, -, h8, -, -, h11⟩ := turn_all v f
  refine ⟨c, h1, h2, fun k hk => ?_, h11⟩
  rcases h8 k hk with a | ⟨a, b, -⟩
  · exact Or.inl a
  · exact Or.inr ⟨a, b⟩
theorem turnN_succ (g : Page) (n : Nat) : (turnN (n + 1) (g, 0, -9)).1 = (turnF (turnN n (g, 0, -9)).1 (-9)).1 ∧ (turnN (n + 1) (g, 0, -9)).2.1 = (turnN n (g, 0, -9)).2.1 + (turnF (turnN n (g, 0, -9)).1 (-9)).2.1 := by
  refine ⟨(turnF_f _ _ _).1, ?_⟩
  show (turnN n (g, 0, -9)).2.1 + (turnF (turnN n (g, 0, -9)).1 (turnN n (g, 0, -9)).2.2).2.1 = _
  rw [(turnF_f _ (turnN n (g, 0, -9)).2.2 (-9)).2]
theorem flag01 {g : Page} (v : Val g) {k : Nat} (hk : k < pn g) : g (13 + 2 * k) = 0 ∨ g (13 + 2 * k) = 1 := by
  obtain ⟨-, -, -, -, -, -, -, -, -, -, -, vp, -⟩ := id v
  exact (vp k hk).2.2
/-- a pin that falls in the turns is counted -/
theorem fall_cnt {g : Page} (v : Val g) {n k : Nat} (hk : k < pn g) (h1 : ¬ (turnN n (g, 0, -9)).1 (13 + 2 * k) = 0) (h0 : (turnN (n + 1) (g, 0, -9)).1 (13 + 2 * k) = 0) : ∃ c, 0 < c ∧ c ≤ 15 * (n + 1) ∧ (turnN (n + 1) (g, 0, -9)).2.1 = nI c := by
  obtain ⟨c0, hc0, e0⟩ := turnN_cnt v (-9) n
  have vn := Val_turnN n (s := (g, 0, -9)) v
  obtain ⟨c, hc, e, -, hz⟩ := turn_flag vn (-9)
  obtain ⟨s1, s2⟩ := turnN_succ g n
  refine ⟨c0 + c, ?_, by omega, by rw [s2, e0, e]; exact nI_addn _ _⟩
  have : c ≠ 0 := fun z => by
    have := hz z k (by rw [turnN_pn n v]; exact hk)
    rw [s1] at h0
    rw [h0] at this
    exact h1 this.symm
  omega
theorem fall_stays {g : Page} (v : Val g) {k : Nat} (hk : k < pn g) (n : Nat) (h0 : (turnN n (g, 0, -9)).1 (13 + 2 * k) = 0) : (turnN (n + 1) (g, 0, -9)).1 (13 + 2 * k) = 0 := by
  have vn := Val_turnN n (s := (g, 0, -9)) v
  obtain ⟨c, -, -, h, -⟩ := turn_flag vn (-9)
  rw [(turnN_succ g n).1]
  rcases h k (by rw [turnN_pn n v]; exact hk) with a | ⟨a, b⟩
  · rw [a]; exact h0
  · exact b
/-- as long as nothing falls, all stand as before -/
theorem no_fall {g : Page} (v : Val g) : ∀ n, (∀ i, i < n → flN g i = 0) → ∀ k, k < pn g → (turnN n (g, 0, -9)).1 (13 + 2 * k) = g (13 + 2 * k)
  | 0, _, k, _ => rfl
  | n + 1, h, k, hk => by
    have vn := Val_turnN n (s := (g, 0, -9)) v
    obtain ⟨c, hc, e, -, hz⟩ := turn_flag vn (-9)
    have fz : flN g n = 0 := h n (by omega)
    have c0 : c = 0 := by
      have : nI c = 0 := by rw [← e]; exact fz
      rw [nI_zero (by omega)] at this
      exact this
    rw [(turnN_succ g n).1, hz c0 k (by rw [turnN_pn n v]; exact hk)]
    exact no_fall v n (fun i hi => h i (by omega)) k hk
/-- the first pin that falls stood before and has fallen then -/
theorem step_first {b : Int32} {g : Page} (v : Val g) : ∀ n, ((stepN b n (g, 0, -9)).2.2 = -9 ∧ ∀ k, k < pn g → (stepN b n (g, 0, -9)).1 (13 + 2 * k) = g (13 + 2 * k)) ∨ ∃ kk, kk < pn g ∧ (stepN b n (g, 0, -9)).2.2 = nI kk ∧ g (13 + 2 * kk) = 1 ∧ (stepN b n (g, 0, -9)).1 (13 + 2 * kk) = 0
  | 0 => Or.inl ⟨rfl, fun k _ => rfl⟩
  | n + 1 => by
    have vn := Val_stepN (b := b) n (s := (g, 0, -9)) v
    have E1 : (stepN b (n + 1) (g, 0, -9)).1 = (stepF b (stepN b n (g, 0, -9)).1).1 := rfl
    have E3 : (stepN b (n + 1) (g, 0, -9)).2.2 = if (stepN b n (g, 0, -9)).2.2 = -9 then (stepF b (stepN b n (g, 0, -9)).1).2.2 else (stepN b n (g, 0, -9)).2.2 := rfl
    have kp := (stepN_keep (b := b) n (s := (g, 0, -9)) v).1
    have ih := step_first (b := b) v n
    have hp := pn_le v
    generalize stepN b (n + 1) (g, 0, -9) = T at E1 E3
    generalize stepN b n (g, 0, -9) = S at vn E1 E3 kp ih
    have kp' : pn S.1 = pn g := kp
    rcases step_cases vn b with e | ⟨kk, hkk, ep, ef, er, e⟩
    · rw [e] at E1 E3
      have q : ∀ j, j ≠ 5 → T.1 j = S.1 j := fun j hj => by
        rw [E1]; show upd S.1 5 _ j = _; rw [updE, if_neg hj]
      rcases ih with ⟨a1, a2⟩ | ⟨k', a1, a2, a3, a4⟩
      · left
        exact ⟨by rw [E3, if_pos a1], fun k hk => by rw [q _ (by omega)]; exact a2 k hk⟩
      · right
        exact ⟨k', a1, by rw [E3, if_neg (by rw [a2]; exact m9' (by omega))]; exact a2, a3, by rw [q _ (by omega)]; exact a4⟩
    · rw [e] at E1 E3
      have tf : ∀ k, k < 40 → T.1 (13 + 2 * k) = if k = kk then 0 else S.1 (13 + 2 * k) := fun k hk => by
        rw [E1]; show hitF _ kk (13 + 2 * k) = _
        rw [hitF_lo _ _ (by omega), if_neg (by omega), updE, if_neg (by omega), updE]
        by_cases c2 : k = kk
        · rw [if_pos (by omega), if_pos c2]
        · rw [if_neg (by omega), if_neg c2, updE, if_neg (by omega)]
      right
      rcases ih with ⟨a1, a2⟩ | ⟨k', a1, a2, a3, a4⟩
      · refine ⟨kk, by omega, by rw [E3, if_pos a1], by rw [← a2 kk (by omega)]; exact ef, by rw [tf kk (by omega), if_pos rfl]⟩
      · have ne : k' ≠ kk := fun z => by subst z; rw [a4] at ef; exact absurd ef (by decide)
        exact ⟨k', a1, by rw [E3, if_neg (by rw [a2]; exact m9' (by omega))]; exact a2, a3, by rw [tf k' (by omega), if_neg ne]; exact a4⟩
theorem turn_first {g : Page} (v : Val g) (h : ¬ (turnF g (-9)).2.2 = -9) : ∃ kk, kk < pn g ∧ (turnF g (-9)).2.2 = nI kk ∧ g (13 + 2 * kk) = 1 ∧ (turnF g (-9)).1 (13 + 2 * kk) = 0 := by
  obtain ⟨v0, v1, -, -, -, -, v6, -⟩ := id v
  have hr := rest_val v0 v1 v6
  have hp := pn_le v
  by_cases h7 : 0 < g 7
  · have et : turnF g (-9) = (upd (dragF (moveF g (-9)).1) 8 (dragF (moveF g (-9)).1 8 + 1), (moveF g (-9)).2.1, (moveF g (-9)).2.2) := by
      unfold turnF; rw [if_pos h7]
    have e6 : pn (upd g 6 (restF g)) = pn g := pn_upd (by decide)
    have em : stepN (if 0 ≤ wayF g then 1 else -1) (wayF g).natAbs (upd g 6 (restF g), 0, -9) = moveF g (-9) := rfl
    have sf := step_first (b := if 0 ≤ wayF g then 1 else -1) (Val_6 v ⟨hr.2.1, hr.2.2⟩) (wayF g).natAbs
    rw [em, e6] at sf
    rw [et] at h ⊢
    rcases sf with ⟨a1, -⟩ | ⟨kk, a1, a2, a3, a4⟩
    · exact absurd a1 h
    · rw [updE, if_neg (by omega)] at a3
      refine ⟨kk, a1, a2, a3, ?_⟩
      show upd _ 8 _ (13 + 2 * kk) = 0
      rw [updE, if_neg (by omega), dragF_ne _ (by omega)]
      exact a4
  · have et : turnF g (-9) = (upd g 8 (g 8 + 1), 0, -9) := by
      unfold turnF; rw [if_neg h7]
    rw [et] at h
    exact absurd rfl h
/-- the pin that is hit next -/
theorem next_spec {g : Page} (v : Val g) (h : ¬ nextR g = -9) : ∃ kk i, kk < pn g ∧ nextR g = nI kk ∧ i < 2000 ∧ g (13 + 2 * kk) = 1 ∧ (turnN (i + 1) (g, 0, -9)).1 (13 + 2 * kk) = 0 ∧ ∀ k, k < pn g → ∀ t, t ≤ i → (turnN t (g, 0, -9)).1 (13 + 2 * k) = g (13 + 2 * k) := by
  unfold nextR at h ⊢
  rcases srch_spec (P := fun i => decide (¬ flN g i = 0)) (val := fiN g) 2000 0 with ⟨h1, -⟩ | ⟨i, -, h2, h3, h4, h5⟩
  · exact absurd h1 h
  · have nf : ∀ t, t ≤ i → ∀ k, k < pn g → (turnN t (g, 0, -9)).1 (13 + 2 * k) = g (13 + 2 * k) := fun t ht => no_fall v t (fun j hj => by
      have := h5 j (by omega) (by omega)
      simpa using this)
    have vi := Val_turnN i (s := (g, 0, -9)) v
    rw [h3] at h ⊢
    obtain ⟨kk, a1, a2, a3, a4⟩ := turn_first vi h
    have epn := turnN_pn i (c := 0) (f := -9) v
    rw [epn] at a1
    refine ⟨kk, i, a1, a2, by omega, ?_, ?_, fun k hk t ht => nf t ht k hk⟩
    · rw [← nf i (Nat.le_refl _) kk a1]; exact a3
    · rw [(turnN_succ g i).1]; exact a4
/-- when a pin falls -/
theorem falls_spec {g : Page} (k : Nat) : (fallR g k = -9 ∧ ∀ i, i ≤ 2000 → ¬ (turnN i (g, 0, -9)).1 (13 + 2 * k) = 0) ∨ ∃ i, i ≤ 2000 ∧ fallR g k = nI i ∧ (turnN i (g, 0, -9)).1 (13 + 2 * k) = 0 ∧ ∀ j, j < i → ¬ (turnN j (g, 0, -9)).1 (13 + 2 * k) = 0 := by
  unfold fallR
  rcases srch_spec (P := fun n => decide ((turnN n (g, 0, -9)).1 (13 + 2 * k) = 0)) (val := nI) 2001 0 with ⟨h1, h2⟩ | ⟨i, -, h2, h3, h4, h5⟩
  · exact Or.inl ⟨h1, fun i hi => by simpa using h2 i (by omega) (by omega)⟩
  · exact Or.inr ⟨i, by omega, h3, by simpa using h4, fun j hj => by simpa using h5 j (by omega) hj⟩
theorem low_spec {g : Page} (x : Int32) : (lowR g x = -9 ∧ x < g 7) ∨ ∃ i, i ≤ 3000 ∧ lowR g x = nI i ∧ ¬ x < (turnN i (g, 0, -9)).1 7 ∧ ∀ j, j < i → x < (turnN j (g, 0, -9)).1 7 := by
  unfold lowR
  rcases srch_spec (P := fun n => decide (¬ x < (turnN n (g, 0, -9)).1 7)) (val := nI) 3001 0 with ⟨h1, h2⟩ | ⟨i, -, h2, h3, h4, h5⟩
  · refine Or.inl ⟨h1, ?_⟩
    have := h2 0 (by decide) (by decide)
    have e0 : (turnN 0 (g, 0, -9)).1 7 = g 7 := rfl
    rw [e0] at this
    exact Classical.byContradiction (fun z => absurd this (by simpa using z))
  · refine Or.inr ⟨i, by omega, h3, by simpa using h4, fun j hj => ?_⟩
    have := h5 j (by omega) hj
    exact Classical.byContradiction (fun z => absurd this (by simpa using z))
theorem push_spec {g : Page} (n : Nat) : pushR g n = -9 ∨ ∃ j, j < 100 ∧ pushR g n = nI (100 * j) ∧ allB (inR (gainF g (nI (100 * j)))) n = true := by
  unfold pushR
  rcases srch_spec (P := fun j => allB (inR (gainF g (nI (100 * j)))) n) (val := fun j => nI (100 * j)) 100 0 with ⟨h1, -⟩ | ⟨j, -, h2, h3, h4, -⟩
  · exact Or.inl h1
  · exact Or.inr ⟨j, by omega, h3, h4⟩
theorem free_spec {g : Page} (n : Nat) : freeR g n = -9 ∨ ∃ j, j < 180 ∧ freeR g n = nI (60 * j) := by
  unfold freeR
  rcases srch_spec (P := fun j => allB (noF (upd g 5 (nI (60 * j)))) n) (val := fun j => nI (60 * j)) 180 0 with ⟨h1, -⟩ | ⟨j, -, h2, h3, -, -⟩
  · exact Or.inl h1
  · exact Or.inr ⟨j, by omega, h3⟩
theorem free_none {g : Page} (v : Val g) (h : pn g = 0) (n : Nat) : freeR g n = 0 := by
  have all : allB (noF (upd g 5 (nI (60 * 0)))) n = true := allB_iff.mpr (fun i _ => by
    have v5 : Val (upd g 5 (nI (60 * 0))) := Val_5 v (by decide)
    obtain ⟨c, hc, e, h2⟩ := turnF_fall (Val_turnN i (s := (upd g 5 (nI (60 * 0)), 0, -9)) v5)
    have epn := turnN_pn i (c := 0) (f := -9) v5
    rcases h2 with ⟨h2, -⟩ | ⟨-, kk, h2, -⟩
    · subst h2
      exact decide_eq_true e
    · rw [epn] at h2
      unfold pn at h2 h
      rw [updE, if_neg (by decide)] at h2
      omega)
  unfold freeR
  show (if allB (noF (upd g 5 (nI (60 * 0)))) n = true then nI (60 * 0) else _) = 0
  rw [if_pos all]; rfl
theorem sin_odd : ∀ n, n < 90 → sinF (-(nI n)) = -(sinF (nI n)) ∧ (sinF (nI n)).toInt ≤ (sinF (nI n + 1)).toInt := by decide +kernel

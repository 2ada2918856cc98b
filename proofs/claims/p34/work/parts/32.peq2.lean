def PE2 (r s : Page × Int32 × Int32) : Prop := PEq r.1 s.1 ∧ r.2 = s.2
theorem PEq_step {h g : Page} (b : Int32) (v : Val g) (e : PEq h g) : PE2 (stepF b h) (stepF b g) := by
  obtain ⟨-, -, -, -, -, -, -, -, v9, v10, -, -, -⟩ := id v
  have hp : pn g ≤ 40 := by unfold pn; omega
  unfold stepF
  rw [e.lo (j := 5) (by decide)]
  have e1 : PEq (upd h 5 (aroundF (g 5 + b))) (upd g 5 (aroundF (g 5 + b))) := PEq_upd e (by decide)
  have p1 : pn (upd g 5 (aroundF (g 5 + b))) = pn g := pn_upd (by decide)
  have c9 : upd g 5 (aroundF (g 5 + b)) 9 = g 9 := by rw [updE, if_neg (by decide)]
  have c10 : upd g 5 (aroundF (g 5 + b)) 10 = g 10 := by rw [updE, if_neg (by decide)]
  generalize upd h 5 (aroundF (g 5 + b)) = h1 at e1
  generalize upd g 5 (aroundF (g 5 + b)) = g1 at e1 p1 c9 c10
  dsimp only
  rw [e1.lo (j := 5) (by decide), PEq_pin e1, e1.lo (j := 7) (by decide), e1.lo (j := 3) (by decide)]
  rcases pinGo_spec g1 (g1 5) (pn g1) 0 with ⟨h1', -⟩ | ⟨kk, -, h2, h3, -, -⟩
  · have : pinF g1 (g1 5) = -9 := h1'
    rw [if_pos this, if_pos this]
    exact ⟨e1, rfl⟩
  · have : pinF g1 (g1 5) = nI kk := h3
    rw [this, nI_clamp (by omega), (e1.2.1 kk (by omega)).2]
    split
    · exact ⟨e1, rfl⟩
    · split
      · exact ⟨e1, rfl⟩
      · split
        · exact ⟨e1, rfl⟩
        · exact ⟨PEq_hit (by rw [c10]; exact v10) (by rw [c9]; exact v9) (by omega) e1, rfl⟩
theorem PEq_stepN {b : Int32} : ∀ (n : Nat) {s t : Page × Int32 × Int32}, Val t.1 → PE2 s t → PE2 (stepN b n s) (stepN b n t)
  | 0, _, _, _, e => e
  | n + 1, s, t, v, e => by
    obtain ⟨e1, e2⟩ := PEq_stepN (b := b) n v e
    obtain ⟨e3, e4⟩ := PEq_step b (Val_stepN n v) e1
    refine ⟨e3, ?_⟩
    show ((stepN b n s).2.1 + (stepF b (stepN b n s).1).2.1, if (stepN b n s).2.2 = -9 then (stepF b (stepN b n s).1).2.2 else (stepN b n s).2.2) = _
    rw [e2, e4]
    rfl
theorem PEq_turn {h g : Page} (f : Int32) (v : Val g) (e : PEq h g) : PE2 (turnF h f) (turnF g f) := by
  have ew : wayF h = wayF g := by unfold wayF; rw [e.lo (j := 6) (by decide), e.lo (j := 0) (by decide), e.lo (j := 1) (by decide)]
  have er : restF h = restF g := by unfold restF; rw [ew, e.lo (j := 6) (by decide), e.lo (j := 0) (by decide), e.lo (j := 1) (by decide)]
  obtain ⟨v0, v1, -, -, -, -, v6, -⟩ := id v
  have hr := rest_val v0 v1 v6
  have em : PE2 (moveF h f) (moveF g f) := by
    unfold moveF
    rw [ew, er]
    exact PEq_stepN _ (t := (upd g 6 (restF g), 0, f)) (Val_6 v ⟨hr.2.1, hr.2.2⟩) ⟨PEq_upd e (by decide), rfl⟩
  unfold turnF
  rw [e.lo (j := 7) (by decide)]
  split
  · have ed := PEq_drag em.1
    dsimp only
    rw [ed.lo (j := 8) (by decide), em.2]
    exact ⟨PEq_upd ed (by decide), rfl⟩
  · rw [e.lo (j := 8) (by decide)]
    exact ⟨PEq_upd e (by decide), rfl⟩
theorem PEq_turnN : ∀ (n : Nat) {s t : Page × Int32 × Int32}, Val t.1 → PE2 s t → PE2 (turnN n s) (turnN n t)
  | 0, _, _, _, e => e
  | n + 1, s, t, v, e => by
    obtain ⟨e1, e2⟩ := PEq_turnN n v e
    have e2' : (turnN n s).2.2 = (turnN n t).2.2 := by rw [e2]
    obtain ⟨e3, e4⟩ := PEq_turn (turnN n t).2.2 (Val_turnN n v) e1
    refine ⟨?_, ?_⟩
    · show PEq (turnF (turnN n s).1 (turnN n s).2.2).1 (turnF (turnN n t).1 (turnN n t).2.2).1
      rw [e2']; exact e3
    · show ((turnN n s).2.1 + (turnF (turnN n s).1 (turnN n s).2.2).2.1, (turnF (turnN n s).1 (turnN n s).2.2).2.2) = ((turnN n t).2.1 + (turnF (turnN n t).1 (turnN n t).2.2).2.1, (turnF (turnN n t).1 (turnN n t).2.2).2.2)
      rw [e2', e2, e4]
/-- taking a pin out: the class's page and the reference's -/
theorem PEq_take {h g : Page} {k : Nat} (hm : 0 ≤ (g 9).toInt ∧ (g 9).toInt ≤ 40) (ht : (g 10).toInt ≤ 20) (hk : k < pn g) (e : PEq h g) : PEq (takeTo (upd h 9 (h 9 - 1)) k (pn h - 1)) (removeF g k) := by
  have hp : pn g ≤ 40 := by unfold pn; omega
  have d1 : (1 : Int32).toInt = 1 := rfl
  have e9 : removeF g k 9 = g 9 - 1 := by unfold removeF; rw [updE, if_pos rfl]
  have ep : pn (removeF g k) = pn g - 1 := by
    have := e9
    unfold pn at hk ⊢
    rw [this, i32_sub (by rw [d1]; omega) (by rw [d1]; omega), d1]
    omega
  have lo : ∀ i, i ≠ 9 → (i < 12 + 2 * k ∨ 92 ≤ i) → i < 92 ∨ 92 ≤ i → h i = g i → takeTo (upd h 9 (h 9 - 1)) k (pn h - 1) i = removeF g k i := fun i h1 h2 _ hi => by
    unfold takeTo removeF
    rw [e.epn, if_neg (by omega), updE, if_neg h1, updE, if_neg h1, if_neg (by omega), hi]
  refine ⟨fun i hi => ?_, fun k2 hk2 => ?_, fun i hi => ?_, fun i hi => ?_⟩
  · by_cases c : i = 9
    · subst c
      rw [e9]
      unfold takeTo
      rw [if_neg (by omega), updE, if_pos rfl, e.lo (by decide)]
    · exact lo i c (by omega) (by omega) (e.1 i hi)
  · rw [ep] at hk2
    have g2 : ∀ x, x < 2 → h (12 + 2 * k2 + x) = g (12 + 2 * k2 + x) ∧ h (12 + 2 * k2 + 2 + x) = g (12 + 2 * k2 + 2 + x) := fun x hx => by
      have a := e.2.1 k2 (by omega)
      have b := e.2.1 (k2 + 1) (by omega)
      rcases (show x = 0 ∨ x = 1 by omega) with z | z
      · subst z
        exact ⟨a.1, by rw [show 12 + 2 * k2 + 2 + 0 = 12 + 2 * (k2 + 1) by omega]; exact b.1⟩
      · subst z
        exact ⟨by rw [show 12 + 2 * k2 + 1 = 13 + 2 * k2 by omega]; exact a.2, by rw [show 12 + 2 * k2 + 2 + 1 = 13 + 2 * (k2 + 1) by omega]; exact b.2⟩
    have w : ∀ x, x < 2 → takeTo (upd h 9 (h 9 - 1)) k (pn h - 1) (12 + 2 * k2 + x) = removeF g k (12 + 2 * k2 + x) := fun x hx => by
      by_cases c : k ≤ k2
      · unfold takeTo removeF
        rw [e.epn, if_pos (by omega), updE, if_neg (by omega), updE, if_neg (by omega), if_pos (by omega), show 12 + 2 * k2 + x + 2 = 12 + 2 * k2 + 2 + x by omega]
        exact (g2 x hx).2
      · exact lo _ (by omega) (by omega) (by omega) (g2 x hx).1
    refine ⟨w 0 (by decide), ?_⟩
    have := w 1 (by decide)
    rw [show 12 + 2 * k2 + 1 = 13 + 2 * k2 by omega] at this
    exact this
  · have e10 : removeF g k 10 = g 10 := by unfold removeF; rw [updE, if_neg (by decide), if_neg (by omega)]
    rw [e10] at hi
    exact lo _ (by omega) (by omega) (by omega) (e.2.2.1 i hi)
  · have e11 : rn (removeF g k) = rn g := by unfold rn removeF; rw [updE, if_neg (by decide), if_neg (by omega)]
    rw [e11] at hi
    exact lo _ (by omega) (by omega) (by omega) (e.2.2.2 i hi)
/-- what a page keeps, kept through -/
theorem Val_PEq {h g : Page} (v : Val g) (e : PEq h g) : Val h := by
  obtain ⟨v0, v1, v2, v3, v4, v5, v6, v7, v9, v10, v11, vp, vd, vr⟩ := id v
  unfold Val
  rw [e.epn, e.ern, e.lo (j := 0) (by decide), e.lo (j := 1) (by decide), e.lo (j := 2) (by decide), e.lo (j := 3) (by decide), e.lo (j := 4) (by decide), e.lo (j := 5) (by decide), e.lo (j := 6) (by decide), e.lo (j := 7) (by decide), e.lo (j := 9) (by decide), e.lo (j := 10) (by decide), e.lo (j := 11) (by decide)]
  refine ⟨v0, v1, v2, v3, v4, v5, v6, v7, v9, v10, v11, fun k hk => ?_, fun j k hj hk => ?_, fun k hk => ?_⟩
  · rw [(e.2.1 k hk).1, (e.2.1 k hk).2]; exact vp k hk
  · rw [(e.2.1 k hk).1, (e.2.1 j hj).1]; exact vd j k hj hk
  · have := e.2.2.2 (1 + 3 * k) (by omega)
    rw [show 152 + (1 + 3 * k) = 153 + 3 * k by omega] at this
    rw [this]; exact vr k hk

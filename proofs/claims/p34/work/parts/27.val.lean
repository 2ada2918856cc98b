/-! WHAT A PAGE KEEPS, THROUGH WHAT IS DONE TO IT -/
theorem Val_sc {g g' : Page} (v : Val g) (hp : ∀ j, 9 ≤ j → g' j = g j) (h0 : -90 ≤ (g' 0).toInt ∧ (g' 0).toInt ≤ 90) (h1 : 60 ≤ (g' 1).toInt ∧ (g' 1).toInt ≤ 900) (h2 : 0 ≤ (g' 2).toInt ∧ (g' 2).toInt ≤ 99) (h3 : 1 ≤ (g' 3).toInt ∧ (g' 3).toInt ≤ 9999) (h4 : 0 ≤ (g' 4).toInt ∧ (g' 4).toInt ≤ 99) (h5 : 0 ≤ (g' 5).toInt ∧ (g' 5).toInt < 10800) (h6 : 0 ≤ (g' 6).toInt ∧ (g' 6).toInt < 1000 * (g' 1).toInt) (h7 : 0 ≤ (g' 7).toInt ∧ (g' 7).toInt ≤ 9999) : Val g' := by
  obtain ⟨-, -, -, -, -, -, -, -, v9, v10, v11, vp, vd, vr⟩ := v
  have e9 : pn g' = pn g := by unfold pn; rw [hp 9 (by omega)]
  have e11 : rn g' = rn g := by unfold rn; rw [hp 11 (by omega)]
  refine ⟨h0, h1, h2, h3, h4, h5, h6, h7, by rw [hp 9 (by omega)]; exact v9, by rw [hp 10 (by omega)]; exact v10, by rw [hp 11 (by omega)]; exact v11, fun k hk => ?_, fun j k hj hk => ?_, fun k hk => ?_⟩
  · rw [e9] at hk
    rw [hp _ (by omega), hp _ (by omega)]
    exact vp k hk
  · rw [e9] at hj hk
    rw [hp _ (by omega), hp _ (by omega)]
    exact vd j k hj hk
  · rw [e11] at hk
    rw [hp _ (by omega)]
    exact vr k hk
theorem Val_5 {g : Page} (v : Val g) {x : Int32} (h : 0 ≤ x.toInt ∧ x.toInt < 10800) : Val (upd g 5 x) := by
  obtain ⟨v0, v1, v2, v3, v4, v5, v6, v7, -⟩ := id v
  exact Val_sc v (fun j hj => by rw [updE, if_neg (by omega)]) v0 v1 v2 v3 v4 h v6 v7
theorem Val_6 {g : Page} (v : Val g) {x : Int32} (h : 0 ≤ x.toInt ∧ x.toInt < 1000 * (g 1).toInt) : Val (upd g 6 x) := by
  obtain ⟨v0, v1, v2, v3, v4, v5, v6, v7, -⟩ := id v
  exact Val_sc v (fun j hj => by rw [updE, if_neg (by omega)]) v0 v1 v2 v3 v4 v5 h v7
theorem Val_7 {g : Page} (v : Val g) {x : Int32} (h : 0 ≤ x.toInt ∧ x.toInt ≤ 9999) : Val (upd g 7 x) := by
  obtain ⟨v0, v1, v2, v3, v4, v5, v6, v7, -⟩ := id v
  exact Val_sc v (fun j hj => by rw [updE, if_neg (by omega)]) v0 v1 v2 v3 v4 v5 v6 h
theorem Val_8 {g : Page} (v : Val g) (x : Int32) : Val (upd g 8 x) := by
  obtain ⟨v0, v1, v2, v3, v4, v5, v6, v7, -⟩ := id v
  exact Val_sc v (fun j hj => by rw [updE, if_neg (by omega)]) v0 v1 v2 v3 v4 v5 v6 v7
theorem aroundF_rng (x : Int32) : 0 ≤ (aroundF x).toInt ∧ (aroundF x).toInt < 10800 := by
  rw [aroundF_toInt]
  omega
theorem i0 : (0 : Int32).toInt = 0 := rfl
theorem i1 : (1 : Int32).toInt = 1 := rfl
theorem i9999 : (9999 : Int32).toInt = 9999 := rfl
theorem gain_rng {x a : Int32} (hx : 0 ≤ x.toInt ∧ x.toInt ≤ 9999) (ha : 0 ≤ a.toInt ∧ a.toInt ≤ 9999) : 0 ≤ (if x + a < 9999 then x + a else 9999).toInt ∧ (if x + a < 9999 then x + a else 9999).toInt ≤ 9999 := by
  have e : (x + a).toInt = x.toInt + a.toInt := i32_add (by omega) (by omega)
  split
  · rename_i h
    rw [i32_lt, e, i9999] at h
    omega
  · rw [i9999]; omega
theorem lose_rng {x a : Int32} (hx : 0 ≤ x.toInt ∧ x.toInt ≤ 9999) (ha : 0 ≤ a.toInt) : 0 ≤ (if 0 < x - a then x - a else 0).toInt ∧ (if 0 < x - a then x - a else 0).toInt ≤ x.toInt := by
  have h2 := i32_hi a
  have e : (x - a).toInt = x.toInt - a.toInt := i32_sub (by omega) (by omega)
  split
  · rename_i h
    rw [i32_lt, e, i0] at h
    omega
  · rw [i0]; omega
theorem Val_gain {g : Page} (v : Val g) {a : Int32} (ha : 0 ≤ a.toInt ∧ a.toInt ≤ 9999) : Val (gainF g a) := by
  obtain ⟨-, -, -, -, -, -, -, v7, -⟩ := id v
  exact Val_7 v (gain_rng v7 ha)
theorem Val_lose {g : Page} (v : Val g) {a : Int32} (ha : 0 ≤ a.toInt) : Val (loseF g a) := by
  obtain ⟨-, -, -, -, -, -, -, v7, -⟩ := id v
  have := lose_rng v7 ha
  exact Val_7 v ⟨this.1, by omega⟩
theorem drag_rng {g : Page} (v : Val g) : 0 ≤ (g 7 * g 2 / 10000 + 1).toInt ∧ (g 7 * g 2 / 10000 + 1).toInt ≤ 200 := by
  obtain ⟨-, -, v2, -, -, -, -, v7, -⟩ := id v
  have h1 : 0 ≤ (g 7).toInt * (g 2).toInt := Int.mul_nonneg v7.1 v2.1
  have h2 : (g 7).toInt * (g 2).toInt ≤ 9999 * 99 := Int.mul_le_mul v7.2 v2.2 v2.1 (by decide)
  have e : (g 7 * g 2).toInt = (g 7).toInt * (g 2).toInt := i32_mul (by omega) (by omega)
  have e2 : (g 7 * g 2 / 10000).toInt = (g 7).toInt * (g 2).toInt / 10000 := by
    rw [i32_divp 10000 (by decide) (by rw [e]; exact h1), e]
    rfl
  rw [i32_add (by rw [e2, i1]; omega) (by rw [e2, i1]; omega), e2, i1]
  omega
theorem Val_drag {g : Page} (v : Val g) : Val (dragF g) := by
  have hv := Val_lose v (drag_rng v).1
  unfold dragF
  refine Val_gain hv ?_
  obtain ⟨-, -, -, -, v4, -⟩ := id hv
  omega
theorem Val_hit {g : Page} (v : Val g) {kk : Nat} (hk : kk < pn g) : Val (hitF g kk) := by
  obtain ⟨v0, v1, v2, v3, v4, v5, v6, v7, v9, v10, v11, vp, vd, vr⟩ := id v
  have hp : pn g ≤ 40 := by unfold pn; omega
  have hr : rn g ≤ 20 := by unfold rn; omega
  have sc : ∀ j, j < 12 + 2 * pn g → hitF g kk j = if j = 7 then (if 50 ≤ g 7 then g 7 - 50 else 0) else if j = 10 then (if 20 ≤ g 10 then 20 else g 10 + 1) else if j = 13 + 2 * kk then 0 else g j := fun j hj => by
    unfold hitF
    simp (disch := omega) only [updE, if_pos, if_neg]
    by_cases a : j = 10
    · subst a; simp (disch := omega) only [if_pos, if_neg, ite_true]
    · by_cases b : j = 7
      · subst b; simp (disch := omega) only [if_pos, if_neg, ite_true]
      · simp (disch := omega) only [if_pos, if_neg]
  have rw3 : ∀ j, 152 ≤ j → hitF g kk j = g j := fun j hj => by
    unfold hitF
    simp (disch := omega) only [updE, if_pos, if_neg]
  have e9 : hitF g kk 9 = g 9 := by rw [sc 9 (by omega)]; simp (disch := omega) only [if_neg]
  have e11 : hitF g kk 11 = g 11 := by rw [sc 11 (by omega)]; simp (disch := omega) only [if_neg]
  have p9 : pn (hitF g kk) = pn g := by unfold pn; rw [e9]
  have p11 : rn (hitF g kk) = rn g := by unfold rn; rw [e11]
  have pl : ∀ k, k < pn g → hitF g kk (12 + 2 * k) = g (12 + 2 * k) := fun k hk => by rw [sc _ (by omega)]; simp (disch := omega) only [if_neg]
  refine ⟨?_, ?_, ?_, ?_, ?_, ?_, ?_, ?_, ?_, ?_, ?_, fun k hk => ?_, fun j k hj hk => ?_, fun k hk => ?_⟩
  · rw [sc 0 (by omega)]; simp (disch := omega) only [if_neg]; exact v0
  · rw [sc 1 (by omega)]; simp (disch := omega) only [if_neg]; exact v1
  · rw [sc 2 (by omega)]; simp (disch := omega) only [if_neg]; exact v2
  · rw [sc 3 (by omega)]; simp (disch := omega) only [if_neg]; exact v3
  · rw [sc 4 (by omega)]; simp (disch := omega) only [if_neg]; exact v4
  · rw [sc 5 (by omega)]; simp (disch := omega) only [if_neg]; exact v5
  · rw [sc 6 (by omega), sc 1 (by omega)]; simp (disch := omega) only [if_neg]; exact v6
  · rw [sc 7 (by omega), if_pos rfl, ← lose50 v7]
    have := lose_rng v7 (a := 50) (by decide)
    omega
  · rw [e9]; exact v9
  · rw [sc 10 (by omega)]
    simp (disch := omega) only [if_neg, ite_true]
    have e : (g 10 + 1).toInt = (g 10).toInt + 1 := i32_add (by rw [i1]; omega) (by rw [i1]; omega)
    have h20 : (20 : Int32).toInt = 20 := rfl
    split
    · rw [h20]; omega
    · rename_i h
      rw [i32_le, h20] at h
      rw [e]; omega
  · rw [e11]; exact v11
  · rw [p9] at hk
    rw [pl k hk, sc _ (by omega)]
    refine ⟨(vp k hk).1, (vp k hk).2.1, ?_⟩
    simp (disch := omega) only [if_neg]
    split
    · exact Or.inl rfl
    · exact (vp k hk).2.2
  · rw [p9] at hj hk
    rw [pl j hj, pl k hk]
    exact vd j k hj hk
  · rw [p11] at hk
    rw [rw3 _ (by omega)]
    exact vr k hk
/-- what a minute does -/
theorem step_cases {g : Page} (v : Val g) (b : Int32) : (stepF b g = (upd g 5 (aroundF (g 5 + b)), 0, -9)) ∨ ∃ kk, kk < pn g ∧ g (12 + 2 * kk) = aroundF (g 5 + b) ∧ g (13 + 2 * kk) = 1 ∧ ¬ g 7 < g 3 ∧ stepF b g = (hitF (upd g 5 (aroundF (g 5 + b))) kk, 1, nI kk) := by
  obtain ⟨-, -, -, -, -, -, -, -, v9, -, -, vp, -⟩ := id v
  have hp : pn g ≤ 40 := by unfold pn; omega
  have e9 : pn (upd g 5 (aroundF (g 5 + b))) = pn g := by unfold pn; rw [updE, if_neg (by omega)]
  have e5 : upd g 5 (aroundF (g 5 + b)) 5 = aroundF (g 5 + b) := by rw [updE, if_pos rfl]
  unfold stepF
  simp only [e5]
  rcases pinGo_spec (upd g 5 (aroundF (g 5 + b))) (aroundF (g 5 + b)) (pn (upd g 5 (aroundF (g 5 + b)))) 0 with ⟨h1, -⟩ | ⟨kk, -, h2, h3, h4, -⟩
  · left
    rw [if_pos (show pinF _ _ = -9 from h1)]
  · rw [e9] at h2
    have hkk : kk < pn g := by omega
    have ep : pinF (upd g 5 (aroundF (g 5 + b))) (aroundF (g 5 + b)) = nI kk := h3
    rw [ep, nI_clamp (by omega)]
    have hne : ¬ nI kk = -9 := by
      rw [i32_eq, nI_toInt (by omega)]
      have : (-9 : Int32).toInt = -9 := rfl
      omega
    rw [if_neg hne]
    rw [updE, if_neg (by omega)] at h4
    have r1 : upd g 5 (aroundF (g 5 + b)) (13 + 2 * kk) = g (13 + 2 * kk) := by rw [updE, if_neg (by omega)]
    have r2 : upd g 5 (aroundF (g 5 + b)) 7 = g 7 := by rw [updE, if_neg (by omega)]
    have r3 : upd g 5 (aroundF (g 5 + b)) 3 = g 3 := by rw [updE, if_neg (by omega)]
    rw [r1, r2, r3]
    rcases (vp kk hkk).2.2 with c | c
    · left; rw [if_pos c]
    · have c0 : ¬ g (13 + 2 * kk) = 0 := by rw [c]; decide
      by_cases c2 : g 7 < g 3
      · left; rw [if_neg c0, if_pos c2]
      · right
        exact ⟨kk, hkk, h4, c, c2, by rw [if_neg c0, if_neg c2]⟩
theorem Val_step {g : Page} (v : Val g) (b : Int32) : Val (stepF b g).1 := by
  have v5 : Val (upd g 5 (aroundF (g 5 + b))) := Val_5 v (aroundF_rng _)
  rcases step_cases v b with e | ⟨kk, hkk, -, -, -, e⟩
  · rw [e]; exact v5
  · rw [e]
    refine Val_hit v5 ?_
    unfold pn at hkk ⊢
    rw [updE, if_neg (by omega)]
    exact hkk
theorem Val_stepN {b : Int32} : ∀ (n : Nat) {s : Page × Int32 × Int32}, Val s.1 → Val (stepN b n s).1
  | 0, _, v => v
  | n + 1, _, v => Val_step (Val_stepN n v) b

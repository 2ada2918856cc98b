/-! hands -/
theorem absF_neg {x : Int32} : absF x = if 0 ≤ x then x else 0 - x := rfl
theorem cost_eq {x : Int32} (h : -600 ≤ x.toInt ∧ x.toInt ≤ 600) : (0 ≤ x → 2 * x = 2 * absF x) ∧ (¬ 0 ≤ x → (-2) * x = 2 * absF x) := by
  refine ⟨fun c => by unfold absF; rw [if_pos c], fun c => ?_⟩
  have e := absF_val (x := x) (by omega)
  rw [i32_le, i0] at c
  have m2 : (-2 : Int32).toInt = -2 := rfl
  rw [i32_eq, i32_mul (by rw [m2]; omega) (by rw [m2]; omega), i32_mul (by rw [d2', e]; omega) (by rw [d2', e]; omega), m2, d2', e]
  omega
theorem nudge_back {g : Page} (v : Val g) {x : Int32} (h : -600 ≤ x.toInt ∧ x.toInt ≤ 600) : nudgeF (nudgeF g x) (-x) 5 = g 5 := by
  obtain ⟨-, -, -, -, -, v5, -⟩ := id v
  show aroundF (aroundF (g 5 + x) + -x) = g 5
  have r := aroundF_rng (g 5 + x)
  have e1 : (g 5 + x).toInt = (g 5).toInt + x.toInt := i32_add (by omega) (by omega)
  have e2 : (-x).toInt = -x.toInt := i32_neg (by omega)
  have e3 : (aroundF (g 5 + x) + -x).toInt = ((g 5).toInt + x.toInt) % 10800 - x.toInt := by
    rw [i32_add (by rw [e2]; omega) (by rw [e2]; omega), aroundF_toInt, e1, e2]; omega
  rw [i32_eq, aroundF_toInt, e3]
  omega
theorem nudge_stand (g : Page) (x : Int32) : standF (nudgeF g x) = standF g := by
  have q : ∀ j, 8 ≤ j → nudgeF g x j = g j := fun j hj => by
    unfold nudgeF loseF
    rw [updE, if_neg (by omega), updE, if_neg (by omega), updE, if_neg (by omega)]
  unfold standF
  rw [show pn (nudgeF g x) = pn g from by unfold pn; rw [q 9 (by decide)], sum_cong _ (fun k _ => q _ (by omega))]
theorem gain0 {g : Page} (v : Val g) : gainF g 0 = g := by
  obtain ⟨-, -, -, -, -, -, -, v7, -⟩ := id v
  funext j
  unfold gainF
  rw [updE]
  split
  · rename_i c
    subst c
    rw [Int32.add_zero]
    split
    · rfl
    · rename_i c
      rw [i32_lt, i9999] at c
      rw [i32_eq, i9999]; omega
  · rfl
theorem remove_pn {g : Page} (v : Val g) {k : Nat} (hk : k < pn g) : pn (removeF g k) = pn g - 1 ∧ removeF g k 9 = nI (pn g - 1) := by
  have e : removeF g k 9 = nI (pn g - 1) := by
    unfold removeF
    rw [updE, if_pos rfl, g9_nI v, show (1 : Int32) = nI 1 from rfl, Int32.sub_eq_iff_eq_add, nI_addn, Nat.sub_add_cancel (by omega)]
  have hp := pn_le v
  refine ⟨?_, e⟩
  unfold pn
  rw [e, nI_toInt (by unfold pn at hk hp ⊢; omega)]
  rfl
theorem remove_free {g : Page} (v : Val g) {k : Nat} (hk : k < pn g) : pinF (removeF g k) (g (12 + 2 * k)) = -9 := by
  have hp := pn_le v
  obtain ⟨-, -, -, -, -, -, -, -, -, -, -, -, vd, -⟩ := id v
  obtain ⟨e, -⟩ := remove_pn v hk
  rcases pinGo_spec (removeF g k) (g (12 + 2 * k)) (pn (removeF g k)) 0 with ⟨h1, -⟩ | ⟨j, -, h2, -, h4, -⟩
  · exact h1
  · exfalso
    have q : removeF g k (12 + 2 * j) = if k ≤ j then g (12 + 2 * (j + 1)) else g (12 + 2 * j) := by
      unfold removeF
      rw [updE, if_neg (by omega)]
      by_cases c : k ≤ j
      · rw [if_pos (by omega), if_pos c]; congr 1
      · rw [if_neg (by omega), if_neg c]
    rw [q] at h4
    by_cases c : k ≤ j
    · rw [if_pos c] at h4
      have := vd (j + 1) k (by omega) hk h4
      omega
    · rw [if_neg c] at h4
      have := vd j k (by omega) hk h4
      omega
theorem put_new {g : Page} {p : Int32} : putF g p (13 + 2 * pn g) = 1 := by
  unfold putF
  by_cases c : 13 + 2 * pn g = 9
  · omega
  · rw [updE, if_neg c, updE, if_pos rfl]
theorem read_rows {g : Page} (v : Val g) (hn : rn g < 20) : readF g 11 = nI (rn g + 1) ∧ rn (readF g) = rn g + 1 ∧ readF g (152 + 3 * rn g) = g 8 ∧ readF g (153 + 3 * rn g) = g 5 ∧ (∀ j, j ≠ 11 → (j < 152 + 3 * rn g ∨ 154 + 3 * rn g < j) → readF g j = g j) := by
  have e : readF g 11 = nI (rn g + 1) := by
    unfold readF
    rw [updE, if_pos rfl, g11_nI v, nI_1]
  refine ⟨e, ?_, ?_, ?_, fun j h1 h2 => ?_⟩
  · unfold rn
    rw [e, nI_toInt (by omega)]
    rfl
  · unfold readF
    rw [updE, if_neg (by omega), updE, if_neg (by omega), updE, if_neg (by omega), updE, if_pos rfl]
  · unfold readF
    rw [updE, if_neg (by omega), updE, if_neg (by omega), updE, if_pos rfl]
  · unfold readF
    rw [updE, if_neg h1, updE, if_neg (by omega), updE, if_neg (by omega), updE, if_neg (by omega)]

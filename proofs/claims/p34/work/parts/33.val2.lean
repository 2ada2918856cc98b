def begF (g : Page) : Page := fun j => if j = 0 then 50 else if j = 1 then 240 else if j = 2 then 5 else if j = 3 then 4000 else if j = 7 then 5000 else if j < 212 then 0 else g j
def SetOK (w : Nat) (x : Int32) : Prop := w < 5 ∧ (w = 0 → -90 ≤ x.toInt ∧ x.toInt ≤ 90) ∧ (w = 1 → 60 ≤ x.toInt ∧ x.toInt ≤ 900) ∧ (w = 2 ∨ w = 4 → 0 ≤ x.toInt ∧ x.toInt ≤ 99) ∧ (w = 3 → 1 ≤ x.toInt ∧ x.toInt ≤ 9999)
theorem Val_set {g : Page} {w : Nat} {x : Int32} (v : Val g) (h : SetOK w x) : Val (setF g w x) := by
  obtain ⟨v0, v1, v2, v3, v4, v5, v6, v7, -⟩ := id v
  obtain ⟨hw, s0, s1, s2, s3⟩ := h
  have hi : ∀ j, 9 ≤ j → setF g w x j = g j := fun j hj => by
    unfold setF
    split
    · rw [updE, if_neg (by omega), updE, if_neg (by omega)]
    · rw [updE, if_neg (by omega)]
  have ne : ∀ j, j ≠ 6 → setF g w x j = if j = w then x else g j := fun j hj => by
    unfold setF
    split
    · rw [updE, if_neg hj, updE]
    · rw [updE]
  refine Val_sc v hi ?_ ?_ ?_ ?_ ?_ ?_ ?_ ?_
  · rw [ne 0 (by decide)]; split
    · exact s0 (by omega)
    · exact v0
  · rw [ne 1 (by decide)]; split
    · exact s1 (by omega)
    · exact v1
  · rw [ne 2 (by decide)]; split
    · exact s2 (by omega)
    · exact v2
  · rw [ne 3 (by decide)]; split
    · exact s3 (by omega)
    · exact v3
  · rw [ne 4 (by decide)]; split
    · exact s2 (by omega)
    · exact v4
  · rw [ne 5 (by decide), if_neg (by omega)]; exact v5
  · rw [ne 1 (by decide)]
    by_cases c : w = 1
    · subst c
      have : setF g 1 x 6 = 0 := by unfold setF; rw [if_pos rfl, updE, if_pos rfl]
      have := s1 rfl
      simp only [*, ite_true, i0]
      omega
    · have : setF g w x 6 = g 6 := by unfold setF; rw [if_neg c, updE, if_neg (by omega)]
      rw [this, if_neg (by omega)]; exact v6
  · rw [ne 7 (by decide), if_neg (by omega)]; exact v7
theorem absF_val {x : Int32} (h : -100000 ≤ x.toInt ∧ x.toInt ≤ 100000) : (absF x).toInt = x.toInt.natAbs := by
  unfold absF
  split
  · rename_i c; rw [i32_le, i0] at c; omega
  · rename_i c; rw [i32_le, i0] at c
    rw [i32_sub (by rw [i0]; omega) (by rw [i0]; omega), i0]; omega
theorem Val_nudge {g : Page} {x : Int32} (v : Val g) (h : -600 ≤ x.toInt ∧ x.toInt ≤ 600) : Val (nudgeF g x) := by
  unfold nudgeF
  have v5 := Val_5 v (aroundF_rng (g 5 + x))
  have ea := absF_val (x := x) (by omega)
  have d2 : (2 : Int32).toInt = 2 := rfl
  have e2 : (2 * absF x).toInt = 2 * x.toInt.natAbs := by
    rw [i32_mul (by rw [d2]; omega) (by rw [d2]; omega), d2, ea]
  have v7 := Val_lose v5 (a := 2 * absF x) (by omega)
  refine Val_6 v7 ?_
  obtain ⟨-, v1, -⟩ := id v7
  rw [i0]; omega
theorem Val_put {g : Page} {p : Int32} (v : Val g) (hn : pn g < 40) (h : 0 ≤ p.toInt ∧ p.toInt < 10800) (hf : ∀ k, k < pn g → g (12 + 2 * k) ≠ p) : Val (putF g p) := by
  obtain ⟨v0, v1, v2, v3, v4, v5, v6, v7, v9, v10, v11, vp, vd, vr⟩ := id v
  have h9 : 0 ≤ (g 9).toInt ∧ (g 9).toInt < 40 := by unfold pn at hn; omega
  have ep := pn_put g p h9
  have e9 : (putF g p 9).toInt = (g 9).toInt + 1 := by
    unfold putF
    rw [updE, if_pos rfl, i32_add (by rw [i1]; omega) (by rw [i1]; omega), i1]
  have lo : ∀ j, j < 9 ∨ j = 10 ∨ j = 11 ∨ (12 ≤ j ∧ j < 12 + 2 * pn g) ∨ 92 ≤ j → putF g p j = g j := fun j hj => by
    unfold putF
    rw [updE, if_neg (by omega), updE, if_neg (by omega), updE, if_neg (by omega)]
  have er : rn (putF g p) = rn g := by unfold rn; rw [lo 11 (by omega)]
  have n1 : putF g p (12 + 2 * pn g) = p := by unfold putF; simp (disch := omega) only [updE, if_neg, ite_true]
  have n2 : putF g p (13 + 2 * pn g) = 1 := by unfold putF; simp (disch := omega) only [updE, if_neg, ite_true]
  unfold Val
  rw [ep, er, lo 0 (by omega), lo 1 (by omega), lo 2 (by omega), lo 3 (by omega), lo 4 (by omega), lo 5 (by omega), lo 6 (by omega), lo 7 (by omega), lo 10 (by omega), lo 11 (by omega), e9]
  refine ⟨v0, v1, v2, v3, v4, v5, v6, v7, by omega, v10, v11, fun k hk => ?_, fun j k hj hk => ?_, fun k hk => ?_⟩
  · by_cases c : k = pn g
    · subst c; rw [n1, n2]; exact ⟨h.1, h.2, Or.inr rfl⟩
    · rw [lo _ (by omega), lo _ (by omega)]; exact vp k (by omega)
  · by_cases c : k = pn g
    · by_cases d : j = pn g
      · omega
      · subst c; rw [n1, lo _ (by omega)]
        intro z; exact absurd z (hf j (by omega))
    · by_cases d : j = pn g
      · subst d; rw [n1, lo _ (by omega)]
        intro z; exact absurd z.symm (hf k (by omega))
      · rw [lo _ (by omega), lo _ (by omega)]; exact vd j k (by omega) (by omega)
  · have : k < 20 := by unfold rn at hk; omega
    rw [lo _ (by omega)]; exact vr k hk
theorem Val_raise {g : Page} (v : Val g) : Val (raiseF g) := by
  obtain ⟨v0, v1, v2, v3, v4, v5, v6, v7, v9, v10, v11, vp, vd, vr⟩ := id v
  have hp : pn g ≤ 40 := by unfold pn; omega
  have lo : ∀ j, j < 12 ∨ j % 2 = 0 ∨ 92 ≤ j → raiseF g j = g j := fun j hj => by unfold raiseF; rw [if_neg (by omega)]
  have od : ∀ k, k < pn g → raiseF g (13 + 2 * k) = 1 := fun k hk => by unfold raiseF; rw [if_pos (by omega)]
  have ep : pn (raiseF g) = pn g := by unfold pn; rw [lo 9 (by omega)]
  have er : rn (raiseF g) = rn g := by unfold rn; rw [lo 11 (by omega)]
  unfold Val
  rw [ep, er, lo 0 (by omega), lo 1 (by omega), lo 2 (by omega), lo 3 (by omega), lo 4 (by omega), lo 5 (by omega), lo 6 (by omega), lo 7 (by omega), lo 9 (by omega), lo 10 (by omega), lo 11 (by omega)]
  refine ⟨v0, v1, v2, v3, v4, v5, v6, v7, v9, v10, v11, fun k hk => ?_, fun j k hj hk => ?_, fun k hk => ?_⟩
  · rw [lo _ (by omega), od k hk]; exact ⟨(vp k hk).1, (vp k hk).2.1, Or.inr rfl⟩
  · rw [lo _ (by omega), lo _ (by omega)]; exact vd j k hj hk
  · rw [lo _ (by omega)]; exact vr k hk
theorem Val_read {g : Page} (v : Val g) (hn : rn g < 20) : Val (readF g) := by
  obtain ⟨v0, v1, v2, v3, v4, v5, v6, v7, v9, v10, v11, vp, vd, vr⟩ := id v
  have hp : pn g ≤ 40 := by unfold pn; omega
  have h11 : 0 ≤ (g 11).toInt ∧ (g 11).toInt < 20 := by unfold rn at hn; omega
  have e11 : (readF g 11).toInt = (g 11).toInt + 1 := by
    unfold readF
    rw [updE, if_pos rfl, i32_add (by rw [i1]; omega) (by rw [i1]; omega), i1]
  have er : rn (readF g) = rn g + 1 := by unfold rn; rw [e11]; omega
  have lo : ∀ j, j ≠ 11 → j < 152 + 3 * rn g → readF g j = g j := fun j h1 h2 => by
    unfold readF
    rw [updE, if_neg (by omega), updE, if_neg (by omega), updE, if_neg (by omega), updE, if_neg (by omega)]
  have ep : pn (readF g) = pn g := by unfold pn; rw [lo 9 (by omega) (by omega)]
  have n1 : readF g (153 + 3 * rn g) = g 5 := by unfold readF; simp (disch := omega) only [updE, if_neg, ite_true]
  unfold Val
  rw [ep, er, lo 0 (by omega) (by omega), lo 1 (by omega) (by omega), lo 2 (by omega) (by omega), lo 3 (by omega) (by omega), lo 4 (by omega) (by omega), lo 5 (by omega) (by omega), lo 6 (by omega) (by omega), lo 7 (by omega) (by omega), lo 9 (by omega) (by omega), lo 10 (by omega) (by omega), e11]
  refine ⟨v0, v1, v2, v3, v4, v5, v6, v7, v9, v10, by omega, fun k hk => ?_, fun j k hj hk => ?_, fun k hk => ?_⟩
  · rw [lo _ (by omega) (by omega), lo _ (by omega) (by omega)]; exact vp k hk
  · rw [lo _ (by omega) (by omega), lo _ (by omega) (by omega)]; exact vd j k hj hk
  · by_cases c : k = rn g
    · subst c; rw [n1]; exact v5
    · rw [lo _ (by omega) (by omega)]; exact vr k (by omega)
theorem Val_remove {g : Page} {k : Nat} (v : Val g) (hk : k < pn g) : Val (removeF g k) := by
  obtain ⟨v0, v1, v2, v3, v4, v5, v6, v7, v9, v10, v11, vp, vd, vr⟩ := id v
  have hp : pn g ≤ 40 := by unfold pn; omega
  have h9 : 0 < (g 9).toInt := by unfold pn at hk; omega
  have e9 : (removeF g k 9).toInt = (g 9).toInt - 1 := by
    unfold removeF
    rw [updE, if_pos rfl, i32_sub (by rw [i1]; omega) (by rw [i1]; omega), i1]
  have ep : pn (removeF g k) = pn g - 1 := by unfold pn; rw [e9]; omega
  have lo : ∀ j, j ≠ 9 → j < 12 ∨ 92 ≤ j → removeF g k j = g j := fun j h1 h2 => by
    unfold removeF; rw [updE, if_neg h1, if_neg (by omega)]
  have er : rn (removeF g k) = rn g := by unfold rn; rw [lo 11 (by omega) (by omega)]
  have pl : ∀ x j, x < 2 → j < pn g - 1 → removeF g k (12 + 2 * j + x) = g (12 + 2 * (if k ≤ j then j + 1 else j) + x) := fun x j hx hj => by
    unfold removeF
    rw [updE, if_neg (by omega)]
    by_cases c : k ≤ j
    · rw [if_pos (by omega), if_pos c]; congr 1; omega
    · rw [if_neg (by omega), if_neg c]
  have pl0 : ∀ j, j < pn g - 1 → removeF g k (12 + 2 * j) = g (12 + 2 * (if k ≤ j then j + 1 else j)) := fun j hj => pl 0 j (by decide) hj
  have pl1 : ∀ j, j < pn g - 1 → removeF g k (13 + 2 * j) = g (13 + 2 * (if k ≤ j then j + 1 else j)) := fun j hj => by
    have := pl 1 j (by decide) hj
    rw [show 12 + 2 * j + 1 = 13 + 2 * j by omega] at this
    rw [this]; congr 1; omega
  have ii : ∀ j, j < pn g - 1 → (if k ≤ j then j + 1 else j) < pn g := fun j hj => by split <;> omega
  unfold Val
  rw [ep, er, lo 0 (by omega) (by omega), lo 1 (by omega) (by omega), lo 2 (by omega) (by omega), lo 3 (by omega) (by omega), lo 4 (by omega) (by omega), lo 5 (by omega) (by omega), lo 6 (by omega) (by omega), lo 7 (by omega) (by omega), lo 10 (by omega) (by omega), lo 11 (by omega) (by omega), e9]
  refine ⟨v0, v1, v2, v3, v4, v5, v6, v7, by omega, v10, v11, fun j hj => ?_, fun i j hi hj => ?_, fun j hj => ?_⟩
  · rw [pl0 j hj, pl1 j hj]; exact vp _ (ii j hj)
  · rw [pl0 i hi, pl0 j hj]
    intro z
    have := vd _ _ (ii i hi) (ii j hj) z
    split at this <;> split at this <;> omega
  · rw [lo _ (by omega) (by omega)]; exact vr j hj
theorem begF_lo {g : Page} : (begF g 0 = 50 ∧ begF g 1 = 240 ∧ begF g 2 = 5 ∧ begF g 3 = 4000 ∧ begF g 7 = 5000) ∧ ∀ j, j < 212 → j ≠ 0 → j ≠ 1 → j ≠ 2 → j ≠ 3 → j ≠ 7 → begF g j = 0 := by
  refine ⟨⟨rfl, rfl, rfl, rfl, rfl⟩, fun j h a b c d e => ?_⟩
  unfold begF
  rw [if_neg a, if_neg b, if_neg c, if_neg d, if_neg e, if_pos h]
theorem Val_beg (g : Page) : Val (begF g) := by
  obtain ⟨⟨b0, b1, b2, b3, b7⟩, bz⟩ := begF_lo (g := g)
  have z : ∀ j, j = 4 ∨ j = 5 ∨ j = 6 ∨ j = 9 ∨ j = 10 ∨ j = 11 → begF g j = 0 := fun j hj => bz j (by omega) (by omega) (by omega) (by omega) (by omega) (by omega)
  have ep : pn (begF g) = 0 := by unfold pn; rw [z 9 (by omega)]; rfl
  have er : rn (begF g) = 0 := by unfold rn; rw [z 11 (by omega)]; rfl
  unfold Val
  rw [ep, er, b0, b1, b2, b3, b7, z 4 (by omega), z 5 (by omega), z 6 (by omega), z 9 (by omega), z 10 (by omega), z 11 (by omega)]
  refine ⟨by decide, by decide, by decide, by decide, by decide, by decide, by decide, by decide, by decide, by decide, by decide, fun k hk => absurd hk (by omega), fun j k hj => absurd hj (by omega), fun k hk => absurd hk (by omega)⟩
theorem pinF_none {g : Page} {p : Int32} (hn : pn g ≤ 40) (h : pinF g p = -9) : ∀ k, k < pn g → g (12 + 2 * k) ≠ p := by
  rcases pinGo_spec g p (pn g) 0 with ⟨-, h2⟩ | ⟨j, -, hj, h3, -, -⟩
  · exact fun k hk => h2 k (by omega) (by omega)
  · have : pinF g p = nI j := h3
    rw [this] at h
    rw [i32_eq, nI_toInt (by omega)] at h
    have : (-9 : Int32).toInt = -9 := rfl
    omega

/-! A TURN, ALL OF IT -/
theorem drag7 {h : Page} (v : Val h) : (dragF h 7).toInt = (if (if 0 < (h 7).toInt - ((h 7).toInt * (h 2).toInt / 10000 + 1) then (h 7).toInt - ((h 7).toInt * (h 2).toInt / 10000 + 1) else 0) + (h 4).toInt < 9999 then (if 0 < (h 7).toInt - ((h 7).toInt * (h 2).toInt / 10000 + 1) then (h 7).toInt - ((h 7).toInt * (h 2).toInt / 10000 + 1) else 0) + (h 4).toInt else 9999) := by
  obtain ⟨-, -, v2, -, v4, -, -, v7, -⟩ := id v
  have h1 : 0 ≤ (h 7).toInt * (h 2).toInt := Int.mul_nonneg v7.1 v2.1
  have h2 : (h 7).toInt * (h 2).toInt ≤ 9999 * 99 := Int.mul_le_mul v7.2 v2.2 v2.1 (by decide)
  have e : (h 7 * h 2).toInt = (h 7).toInt * (h 2).toInt := i32_mul (by omega) (by omega)
  have e2 : (h 7 * h 2 / 10000).toInt = (h 7).toInt * (h 2).toInt / 10000 := by
    rw [i32_divp 10000 (by decide) (by rw [e]; exact h1), e]
    rfl
  have e3 : (h 7 * h 2 / 10000 + 1).toInt = (h 7).toInt * (h 2).toInt / 10000 + 1 := by
    rw [i32_add (by rw [e2, i1]; omega) (by rw [e2, i1]; omega), e2, i1]
  generalize (h 7).toInt * (h 2).toInt = P at h1 h2 e2 e3
  have e4 : (h 7 - (h 7 * h 2 / 10000 + 1)).toInt = (h 7).toInt - (P / 10000 + 1) := by
    rw [i32_sub (by rw [e3]; omega) (by rw [e3]; omega), e3]
  have l7 : (loseF h (h 7 * h 2 / 10000 + 1) 7).toInt = if 0 < (h 7).toInt - (P / 10000 + 1) then (h 7).toInt - (P / 10000 + 1) else 0 := by
    show (upd h 7 _ 7).toInt = _
    rw [updE, if_pos rfl]
    by_cases c : 0 < (h 7).toInt - (P / 10000 + 1)
    · rw [if_pos (by rw [i32_lt, i0, e4]; exact c), if_pos c, e4]
    · rw [if_neg (by rw [i32_lt, i0, e4]; exact c), if_neg c]; rfl
  have l4 : loseF h (h 7 * h 2 / 10000 + 1) 4 = h 4 := by
    show upd h 7 _ 4 = _
    rw [updE, if_neg (by decide)]
  unfold dragF
  show (upd (loseF h (h 7 * h 2 / 10000 + 1)) 7 (if loseF h (h 7 * h 2 / 10000 + 1) 7 + loseF h (h 7 * h 2 / 10000 + 1) 4 < 9999 then loseF h (h 7 * h 2 / 10000 + 1) 7 + loseF h (h 7 * h 2 / 10000 + 1) 4 else 9999) 7).toInt = _
  rw [updE, if_pos rfl, l4]
  generalize loseF h (h 7 * h 2 / 10000 + 1) 7 = x at l7
  have xr : 0 ≤ x.toInt ∧ x.toInt ≤ 9999 := by rw [l7]; split <;> omega
  have e5 : (x + h 4).toInt = x.toInt + (h 4).toInt := i32_add (by omega) (by omega)
  rw [← l7]
  by_cases c : x.toInt + (h 4).toInt < 9999
  · rw [if_pos (by rw [i32_lt, i9999, e5]; exact c), if_pos c, e5]
  · rw [if_neg (by rw [i32_lt, i9999, e5]; exact c), if_neg c]; rfl
def wayT (g : Page) : Int := if 0 < (g 7).toInt then wayF g else 0
/-- the height behind a turn in which pins took it to l -/
def aftH (l d a : Int) : Int := if (if 0 < l - (l * d / 10000 + 1) then l - (l * d / 10000 + 1) else 0) + a < 9999 then (if 0 < l - (l * d / 10000 + 1) then l - (l * d / 10000 + 1) else 0) + a else 9999
def TurnAll (g : Page) (S : Page × Int32 × Int32) (c : Nat) : Prop :=
  c ≤ 15 ∧ S.2.1 = nI c ∧ (S.1 5).toInt = ((g 5).toInt + wayT g) % 10800 ∧ (S.1 6).toInt = (g 6).toInt + (if 0 < (g 7).toInt then 900 * (sinF (g 0)).toInt else 0) - wayT g * (1000 * (g 1).toInt) ∧
  (∀ j, Still j → S.1 j = g j) ∧ S.1 8 = g 8 + 1 ∧ (S.1 7).toInt = (if 0 < (g 7).toInt then aftH (hgt (g 7).toInt c) (g 2).toInt (g 4).toInt else 0) ∧
  (∀ k, k < pn g → S.1 (13 + 2 * k) = g (13 + 2 * k) ∨ (g (13 + 2 * k) = 1 ∧ S.1 (13 + 2 * k) = 0 ∧ ∃ i : Int, ((0 < i ∧ i ≤ wayT g) ∨ (i < 0 ∧ wayT g ≤ i)) ∧ (g (12 + 2 * k)).toInt = ((g 5).toInt + i) % 10800)) ∧
  standF S.1 = standF g - nI c ∧ (0 < c → (g 3).toInt ≤ (g 7).toInt ∧ S.1 93 = g 8 ∧ (S.1 94).toInt = hgt (g 7).toInt c ∧ 1 ≤ (S.1 10).toInt) ∧ (c = 0 → ∀ k, k < pn g → S.1 (13 + 2 * k) = g (13 + 2 * k))
theorem turn_all {g : Page} (v : Val g) (f : Int32) : ∃ c, TurnAll g (turnF g f) c := by
  obtain ⟨v0, v1, -, -, -, v5, v6, v7, -⟩ := id v
  have hp := pn_le v
  by_cases h7 : 0 < g 7
  · have h7' : 0 < (g 7).toInt := by rw [i32_lt, i0] at h7; exact h7
    obtain ⟨-, -, w3, w4, -⟩ := way_val v0 v1 v6
    have hr := rest_val v0 v1 v6
    have v6' := Val_6 v ⟨hr.2.1, hr.2.2⟩
    have hb : (if 0 ≤ wayF g then (1 : Int32) else -1).toInt = if 0 ≤ wayF g then 1 else -1 := by split <;> rfl
    obtain ⟨c, h1, h2, h3, h4, h5, h6, h7s, h8, h9⟩ := step_all (b := if 0 ≤ wayF g then 1 else -1) (by rw [hb]; split <;> simp) v6' f (wayF g).natAbs
    rw [hb] at h3 h6
    have et : turnF g f = (upd (dragF (moveF g f).1) 8 (dragF (moveF g f).1 8 + 1), (moveF g f).2.1, (moveF g f).2.2) := by
      unfold turnF; rw [if_pos h7]
    have vm := Val_move v f
    have em : stepN (if 0 ≤ wayF g then 1 else -1) (wayF g).natAbs (upd g 6 (restF g), 0, f) = moveF g f := rfl
    rw [em] at h2 h3 h4 h5 h6 h7s h8 h9
    have u : ∀ j, j ≠ 6 → upd g 6 (restF g) j = g j := fun j hj => by rw [updE, if_neg hj]
    have e6 : pn (upd g 6 (restF g)) = pn g := pn_upd (by decide)
    rw [e6] at h6 h9
    generalize hS : moveF g f = S at h2 h3 h4 h5 h6 h7s h8 h9 et vm
    have q : ∀ j, j ≠ 7 → j ≠ 8 → (turnF g f).1 j = S.1 j := fun j a b => by
      rw [et]; show upd _ 8 _ j = _
      rw [updE, if_neg b, dragF_ne _ a]
    have wt : wayT g = wayF g := by unfold wayT; rw [if_pos h7']
    have d7 := drag7 vm
    have s2 : S.1 2 = g 2 := (h4 2 (Or.inl (by unfold Still; omega))).trans (u 2 (by decide))
    have s4 : S.1 4 = g 4 := (h4 4 (Or.inl (by unfold Still; omega))).trans (u 4 (by decide))
    rw [u 7 (by decide)] at h5
    rw [u 5 (by decide)] at h3
    refine ⟨c, by omega, by rw [et]; exact h2, ?_, ?_, fun j hj => ?_, ?_, ?_, fun k hk => ?_, ?_, fun hc => ?_, fun hc k hk => ?_⟩
    · rw [q 5 (by decide) (by decide), h3, wt]
      congr 1
      split <;> omega
    · rw [q 6 (by decide) (by decide), h4 6 (by omega), updE, if_pos rfl, hr.1, if_pos h7', wt]
    · rw [q j (by unfold Still at hj; omega) (by unfold Still at hj; omega), h4 j (Or.inl hj), u j (by unfold Still at hj; omega)]
    · rw [et]; show upd (dragF S.1) 8 (dragF S.1 8 + 1) 8 = _
      rw [updE, if_pos rfl, dragF_ne _ (by decide), h4 8 (by omega), u 8 (by decide)]
    · rw [if_pos h7']
      have : (turnF g f).1 7 = dragF S.1 7 := by
        rw [et]; show upd (dragF S.1) 8 (dragF S.1 8 + 1) 7 = _
        rw [updE, if_neg (by decide)]
      rw [this, d7, s2, s4, h5]
      rfl
    · rw [q _ (by omega) (by omega)]
      rcases h6 k hk with a | ⟨a1, a2, i, a3, a4, a5⟩
      · left; rw [a, u _ (by omega)]
      · right
        rw [u _ (by omega)] at a1
        rw [u _ (by omega), u 5 (by decide)] at a5
        refine ⟨a1, a2, (if 0 ≤ wayF g then 1 else -1) * i, ?_, a5⟩
        rw [wt]
        split <;> omega
    · have : standF (turnF g f).1 = standF S.1 := by
        unfold standF
        rw [show pn (turnF g f).1 = pn S.1 from by unfold pn; rw [q 9 (by decide) (by decide)], sum_cong _ (fun k _ => q _ (by omega) (by omega))]
      rw [this, h7s]
      have : standF (upd g 6 (restF g)) = standF g := by
        unfold standF
        rw [e6, sum_cong _ (fun k _ => u _ (by omega))]
      rw [this]
    · obtain ⟨a1, a2, a3, a4⟩ := h8 hc
      rw [u 3 (by decide), u 7 (by decide)] at a1
      rw [u 8 (by decide)] at a2
      refine ⟨a1, by rw [q 93 (by decide) (by decide)]; exact a2, by rw [q 94 (by decide) (by decide), a3]; exact h5, by rw [q 10 (by decide) (by decide)]; exact a4⟩
    · rw [q _ (by omega) (by omega), h9 hc k hk, u _ (by omega)]
  · have h7' : ¬ 0 < (g 7).toInt := by rw [i32_lt, i0] at h7; exact h7
    have et : turnF g f = (upd g 8 (g 8 + 1), 0, f) := by
      unfold turnF; rw [if_neg h7]
    have q : ∀ j, j ≠ 8 → (turnF g f).1 j = g j := fun j b => by
      rw [et]; show upd _ 8 _ j = _
      rw [updE, if_neg b]
    have wt : wayT g = 0 := by unfold wayT; rw [if_neg h7']
    refine ⟨0, by decide, by rw [et]; rfl, ?_, ?_, fun j hj => q j (by unfold Still at hj; omega), ?_, ?_, fun k hk => Or.inl (q _ (by omega)), ?_, fun hc => absurd hc (by omega), fun _ k hk => q _ (by omega)⟩
    · rw [q 5 (by decide), wt, Int.emod_eq_of_lt] <;> omega
    · rw [q 6 (by decide), wt, if_neg h7']; omega
    · rw [et]; show upd g 8 (g 8 + 1) 8 = _
      rw [updE, if_pos rfl]
    · rw [q 7 (by decide), if_neg h7']; omega
    · have : standF (turnF g f).1 = standF g := by
        unfold standF
        rw [show pn (turnF g f).1 = pn g from by unfold pn; rw [q 9 (by decide)], sum_cong _ (fun k _ => q _ (by omega))]
      rw [this]; exact (Int32.sub_zero _).symm
/-- what any number of turns leaves as it is -/
theorem turnN_still {g : Page} (v : Val g) (c0 f : Int32) {j : Nat} (hj : Still j) : ∀ n, (turnN n (g, c0, f)).1 j = g j
  | 0 => rfl
  | n + 1 => by
    obtain ⟨c, -, -, -, -, h, -⟩ := turn_all (Val_turnN n (s := (g, c0, f)) v) (turnN n (g, c0, f)).2.2
    exact (h j hj).trans (turnN_still v c0 f hj n)
theorem turnN_clock {g : Page} (v : Val g) (c0 f : Int32) : ∀ n, (turnN n (g, c0, f)).1 8 = g 8 + nI n
  | 0 => (Int32.add_zero _).symm
  | n + 1 => by
    obtain ⟨c, -, -, -, -, -, h, -⟩ := turn_all (Val_turnN n (s := (g, c0, f)) v) (turnN n (g, c0, f)).2.2
    have : (turnN (n + 1) (g, c0, f)).1 8 = (turnN n (g, c0, f)).1 8 + 1 := h
    rw [this, turnN_clock v c0 f n, Int32.add_assoc, nI_1]

theorem drag_val {g : Page} {x : Int32} (hx : g 7 * g 2 / 10000 + 1 = x) (h : Page) (e : ∀ j, j ≠ 7 → h j = g j) (e7 : h 7 = (if 0 ≤ g 7 - x then g 7 - x else 0)) :
    upd h 7 (if h 7 + h 4 ≤ 9999 then h 7 + h 4 else 9999) = dragF g := by
  subst hx
  unfold dragF gainF loseF
  dsimp only
  have l : (if 0 < g 7 - (g 7 * g 2 / 10000 + 1) then g 7 - (g 7 * g 2 / 10000 + 1) else 0) = h 7 := by
    rw [e7]
    generalize g 7 - (g 7 * g 2 / 10000 + 1) = z
    by_cases c : 0 < z
    · rw [if_pos c, if_pos]
      rw [i32_lt] at c; rw [i32_le]; omega
    · rw [if_neg c]
      by_cases c2 : 0 ≤ z
      · rw [if_pos c2]
        rw [i32_lt] at c; rw [i32_le] at c2
        rw [i32_eq]; omega
      · rw [if_neg c2]
  rw [l]
  have e4 : upd g 7 (h 7) 4 = h 4 := by rw [updE, if_neg (by decide), e 4 (by decide)]
  have e7' : upd g 7 (h 7) 7 = h 7 := by rw [updE, if_pos rfl]
  rw [e4, e7', upd_upd]
  have l2 : (if h 7 + h 4 ≤ 9999 then h 7 + h 4 else 9999) = (if h 7 + h 4 < 9999 then h 7 + h 4 else 9999) := by
    generalize h 7 + h 4 = z
    by_cases c : z < 9999
    · rw [if_pos c, if_pos]
      rw [i32_lt] at c; rw [i32_le]; omega
    · rw [if_neg c]
      by_cases c2 : z ≤ 9999
      · rw [if_pos c2]
        rw [i32_lt] at c; rw [i32_le] at c2
        rw [i32_eq]; omega
      · rw [if_neg c2]
  rw [l2]
  funext j
  simp only [updE]
  by_cases c : j = 7
  · rw [if_pos c, if_pos c]
  · rw [if_neg c, if_neg c, e j c]
/-- dragging and driving in the reference, and the clock -/
theorem s5_drag {a : Nat} {g : Page} {w : Int32} {M0 : Mem} {Q : Int32 → Mem → Prop} (k : Q w (va_up M0 a (upd (dragF g) 8 (dragF g 8 + 1)))) :
              vp_in 7 212 ∧
              vp_in 7 212 ∧
              vp_in 2 212 ∧
              ((0 ≤ (g 7) - ((g 7) * (g 2) / 10000 + 1) →
                vp_in 4 212 ∧
                (((g 7) - ((g 7) * (g 2) / 10000 + 1) + (g 4) ≤ 9999 →
                  vp_in 7 212 ∧
                  vp_in 8 212 ∧
                  vp_in 8 212 ∧
                  Q w (va_up M0 a (upd (upd g 7 ((g 7) - ((g 7) * (g 2) / 10000 + 1) + (g 4))) 8 (upd g 7 ((g 7) - ((g 7) * (g 2) / 10000 + 1) + (g 4)) 8 + 1)))
                ) ∧ (¬ (g 7) - ((g 7) * (g 2) / 10000 + 1) + (g 4) ≤ 9999 →
                  vp_in 7 212 ∧
                  vp_in 8 212 ∧
                  vp_in 8 212 ∧
                  Q w (va_up M0 a (upd (upd g 7 9999) 8 (upd g 7 9999 8 + 1)))
                ))
              ) ∧ (¬ 0 ≤ (g 7) - ((g 7) * (g 2) / 10000 + 1) →
                vp_in 4 212 ∧
                ((0 + (g 4) ≤ 9999 →
                  vp_in 7 212 ∧
                  vp_in 8 212 ∧
                  vp_in 8 212 ∧
                  Q w (va_up M0 a (upd (upd g 7 (0 + g 4)) 8 (upd g 7 (0 + g 4) 8 + 1)))
                ) ∧ (¬ 0 + (g 4) ≤ 9999 →
                  vp_in 7 212 ∧
                  vp_in 8 212 ∧
                  vp_in 8 212 ∧
                  Q w (va_up M0 a (upd (upd g 7 9999) 8 (upd g 7 9999 8 + 1)))
                ))
              )) := by
  have p2 : vp_in 2 212 := vp212 (n := 2) (by decide)
  have p4 : vp_in 4 212 := vp212 (n := 4) (by decide)
  have p7 : vp_in 7 212 := vp212 (n := 7) (by decide)
  have p8 : vp_in 8 212 := vp212 (n := 8) (by decide)
  have D := drag_val (g := g) rfl
  have fin : ∀ l z : Int32, l = (if 0 ≤ g 7 - (g 7 * g 2 / 10000 + 1) then g 7 - (g 7 * g 2 / 10000 + 1) else 0) → z = (if l + g 4 ≤ 9999 then l + g 4 else 9999) → upd g 7 z = dragF g := by
    intro l z hl hz
    have := D (upd g 7 l) (fun j hj => by rw [updE, if_neg hj]) (by rw [updE, if_pos rfl]; exact hl)
    rw [upd_upd] at this
    rw [← this, hz]
    have e4 : upd g 7 l 4 = g 4 := by rw [updE, if_neg (by decide)]
    have e7 : upd g 7 l 7 = l := by rw [updE, if_pos rfl]
    rw [e4, e7]
  refine ⟨p7, p7, p2, fun c => ⟨p4, fun c2 => ⟨p7, p8, p8, ?_⟩, fun c2 => ⟨p7, p8, p8, ?_⟩⟩, fun c => ⟨p4, fun c2 => ⟨p7, p8, p8, ?_⟩, fun c2 => ⟨p7, p8, p8, ?_⟩⟩⟩
  · rw [fin _ _ (by rw [if_pos c]) (by rw [if_pos c2])]; exact k
  · rw [fin _ 9999 (by rw [if_pos c]) (by rw [if_neg c2])]; exact k
  · rw [fin 0 _ (by rw [if_neg c]) (by rw [if_pos c2])]; exact k
  · rw [fin 0 9999 (by rw [if_neg c]) (by rw [if_neg c2])]; exact k
theorem RowOK_vu {M : Mem} {a : Nat} {g : Page} (h : RowOK M) (ha : a ≠ 125) : RowOK (va_up M a g) := fun j hj => by rw [vu_ne (Ne.symm ha)]; exact h j hj
theorem upd_id {g : Page} {i : Nat} {x : Int32} (h : g i = x) : upd g i x = g := by
  funext z
  simp only [updE]
  split
  · rename_i e; subst e; exact h.symm
  · rfl
/-- n units on (or back) in the reference: the page -/
def goP (g : Page) (T U : Int) (n : Nat) : Page := upd (stepN (if 0 ≤ wayF g then 1 else -1) n (g, 0, -9)).1 6 (Int32.ofInt (T - (if 0 ≤ wayF g then (n : Int) else -(n : Int)) * U))
theorem s5_turnOn {a : Nat} {g : Page} {M : Mem} {Q : Int32 → Mem → Prop} (s : M a = g) (v : Val g) (hr : RowOK M) (k : Q (turnF g (-9)).2.1 (va_up M a (turnF g (-9)).1)) : wp_X5_turnOn a 212 M Q := by
  obtain ⟨v0, v1, -, -, -, -, v6, v7, -⟩ := id v
  have p : ∀ n, n < 12 → vp_in (nI n) 212 := fun n h => vp212 (by omega)
  have p7 : vp_in 7 212 := p 7 (by decide)
  have p8 : vp_in 8 212 := p 8 (by decide)
  have p6 : vp_in 6 212 := p 6 (by decide)
  simp only [wp_X5_turnOn, forall_eq]
  rw [s]
  refine ⟨p7, fun c => ⟨p8, p8, ?_⟩, fun c => ⟨p 1 (by decide), p6, p 0 (by decide), s5_sineOf hr v0.1 v0.2 ⟨p6, ?_⟩⟩⟩
  · rw [mup_vu, s]
    unfold turnF at k
    rw [if_neg (by rw [i32_le] at c; rw [i32_lt]; omega)] at k
    exact k
  · obtain ⟨w1, w2, w3, w4, -⟩ := way_val v0 v1 v6
    obtain ⟨r1, r2, r3⟩ := rest_val v0 v1 v6
    generalize hT : (g 6).toInt + 900 * (sinF (g 0)).toInt = T at *
    generalize hU : 1000 * (g 1).toInt = U at *
    have hU0 : 60000 ≤ U ∧ U ≤ 900000 := by omega
    have hbn := sinF_bound v0.1 v0.2
    have hTb : -900000 ≤ T ∧ T < 1800000 := by omega
    have T1 : wayF g * U ≤ T := by omega
    have T2 : T < (wayF g + 1) * U := by rw [Int.add_mul]; omega
    have eu : turnF g (-9) = (upd (dragF (moveF g (-9)).1) 8 (dragF (moveF g (-9)).1 8 + 1), (moveF g (-9)).2.1, (moveF g (-9)).2.2) := by
      unfold turnF
      rw [if_pos (by rw [i32_le] at c; rw [i32_lt]; omega)]
    rw [eu] at k
    dsimp only at k
    rw [mup_vu, s]
    have emv : moveF g (-9) = (goP g T U (wayF g).natAbs, (stepN (if 0 ≤ wayF g then 1 else -1) (wayF g).natAbs (g, 0, -9)).2) := by
      unfold moveF goP
      rw [stepN_6]
      have : restF g = Int32.ofInt (T - (if 0 ≤ wayF g then ((wayF g).natAbs : Int) else -((wayF g).natAbs : Int)) * U) := by
        have e : (if 0 ≤ wayF g then ((wayF g).natAbs : Int) else -((wayF g).natAbs : Int)) = wayF g := by split <;> omega
        rw [e, i32_eq, r1, i32_ofInt (by omega) (by omega)]
      rw [this]
    rw [emv] at k
    dsimp only at k
    have hstep : ∀ n, Val (stepN (if 0 ≤ wayF g then 1 else -1) n (g, 0, -9)).1 := fun n => Val_stepN n (s := (g, 0, -9)) v
    generalize hb : (if 0 ≤ wayF g then (1 : Int32) else -1) = b at *
    have gp6 : ∀ n, goP g T U n 6 = Int32.ofInt (T - (if 0 ≤ wayF g then (n : Int) else -(n : Int)) * U) := fun n => by unfold goP; rw [updE, if_pos rfl]
    have gp0 : goP g T U 0 = upd g 6 (g 6 + 900 * sinF (g 0)) := by
      unfold goP
      have : Int32.ofInt (T - (if 0 ≤ wayF g then ((0 : Nat) : Int) else -((0 : Nat) : Int)) * U) = g 6 + 900 * sinF (g 0) := by
        rw [i32_eq, w1, i32_ofInt] <;> simp <;> omega
      rw [this]; rfl
    have gpv : ∀ n y, upd (goP g T U n) 6 y = upd (stepN b n (g, 0, -9)).1 6 y := fun n y => by unfold goP; rw [upd_upd, hb]
    have ei : ∀ z : Int, -3000000 ≤ z → z ≤ 3000000 → (Int32.ofInt z).toInt = z := fun z h1 h2 => i32_ofInt (by omega) (by omega)
    rw [← gp0]
    refine ⟨fun w M' => ∃ n, n ≤ (wayF g).natAbs ∧ (n = 0 ∨ 0 ≤ wayF g) ∧ w = (stepN b n (g, 0, -9)).2.1 ∧ M' = va_up M a (goP g T U n), fun _ M' => (M' a 6).toInt.toNat, ⟨0, Nat.zero_le _, Or.inl rfl, rfl, rfl⟩, ?_⟩
    rintro w M' ⟨n, hn, hn0, rfl, rfl⟩
    have vn := hstep n
    rw [vu_self, gp6]
    have eU : (1000 * g 1).toInt = U := w2
    have mm : ∀ a b : Int, a ≤ b → a * U ≤ b * U := fun a b h => Int.mul_le_mul_of_nonneg_right h (by omega)
    have hn15 : (wayF g).natAbs ≤ 15 := by omega
    have T2' : T < wayF g * U + U := by rw [Int.add_mul] at T2; omega
    have bd : ∀ i : Nat, i ≤ 15 → 0 ≤ (i : Int) * U ∧ (i : Int) * U ≤ 13500000 := fun i h => by
      have h1 := mm 0 i (by omega)
      have h2 := mm i 15 (by omega)
      omega
    have eI : ∀ i : Nat, i ≤ 15 → (Int32.ofInt (T - (if 0 ≤ wayF g then (i : Int) else -(i : Int)) * U)).toInt = (if 0 ≤ wayF g then T - i * U else T + i * U) := fun i h => by
      have := bd i h
      by_cases c : 0 ≤ wayF g
      · rw [if_pos c, if_pos c]; exact i32_ofInt (by omega) (by omega)
      · rw [if_neg c, if_neg c]
        have e : T - -(i : Int) * U = T + i * U := by rw [Int.neg_mul]; omega
        rw [e]; exact i32_ofInt (by omega) (by omega)
    have next : ∀ (i : Nat) (y : Int32), i + 1 ≤ 15 → y.toInt = (if 0 ≤ wayF g then T - i * U - U else T + i * U + U) → upd (stepF b (stepN b i (g, 0, -9)).1).1 6 y = goP g T U (i + 1) := fun i y h hy => by
      unfold goP
      rw [hb]
      have : Int32.ofInt (T - (if 0 ≤ wayF g then ((i + 1 : Nat) : Int) else -((i + 1 : Nat) : Int)) * U) = y := by
        rw [i32_eq, eI (i + 1) h, hy]
        have : ((i + 1 : Nat) : Int) * U = i * U + U := by rw [Int.natCast_add, Int.add_mul]; simp
        rw [this]
        split <;> omega
      rw [this]; rfl
    have hP : ∀ i y, PinsOK (upd (stepN b i (g, 0, -9)).1 6 y) := fun i y => (hstep i).pins.u6
    refine ⟨p6, fun c2 => ?_, fun c2 => ⟨p6, p6, ?_⟩⟩
    · rw [i32_lt, eI n (by omega), eU] at c2
      refine ⟨fun w M' => ∃ i, i ≤ (wayF g).natAbs ∧ (0 ≤ wayF g → i = (wayF g).natAbs) ∧ w = (stepN b i (g, 0, -9)).2.1 ∧ M' = va_up M a (goP g T U i), fun _ M' => (-(M' a 6).toInt).toNat, ⟨n, hn, fun c3 => ?_, rfl, rfl⟩, ?_⟩
      · rw [if_pos c3] at c2
        have : ¬ (n : Int) + 1 ≤ wayF g := fun z => by
          have := mm _ _ z
          rw [Int.add_mul] at this
          omega
        omega
      · rintro w M' ⟨i, hi, hi0, rfl, rfl⟩
        rw [vu_self, gp6]
        refine ⟨p6, fun c3 => ?_, fun c3 => ⟨p6, p6, ?_⟩⟩
        · rw [i32_le, eI i (by omega), i0] at c3
          have : i = (wayF g).natAbs := by
            by_cases c4 : 0 ≤ wayF g
            · exact hi0 c4
            · rw [if_neg c4] at c3
              have : ¬ (i : Int) + 1 ≤ -wayF g := fun z => by
                have := mm _ _ z
                rw [Int.add_mul, Int.neg_mul] at this
                omega
              omega
          subst this
          simp only [mup_vu2, vu_self]
          exact s5_drag k
        · rw [i32_le, eI i (by omega), i0] at c3
          have c4 : ¬ 0 ≤ wayF g := fun z => by
            rw [if_pos z, hi0 z] at c3
            have : (((wayF g).natAbs : Nat) : Int) = wayF g := by omega
            rw [this] at c3
            omega
          rw [if_neg c4] at c3
          have ei1 : (i : Int) < -wayF g := by
            have : ¬ -wayF g ≤ (i : Int) := fun z => by
              have := mm _ _ z
              rw [Int.neg_mul] at this
              omega
            omega
          have hb1 : b = -1 := by rw [← hb, if_neg c4]
          have bi := bd i (by omega)
          have ey : (Int32.ofInt (T - (if 0 ≤ wayF g then (i : Int) else -(i : Int)) * U) + 1000 * g 1).toInt = T + i * U + U := by
            rw [i32_add (by rw [eI i (by omega), eU, if_neg c4]; omega) (by rw [eI i (by omega), eU, if_neg c4]; omega), eI i (by omega), eU, if_neg c4]
          generalize Int32.ofInt (T - (if 0 ≤ wayF g then (i : Int) else -(i : Int)) * U) + 1000 * g 1 = y at ey
          rw [mup_vu2, gpv]
          refine s5_step vu_self (hP i y) ?_
          rw [stepF_6, vu_vu, ← hb1, next i y (by omega) (by rw [if_neg c4]; exact ey)]
          refine ⟨⟨i + 1, by omega, fun z => absurd z c4, rfl, rfl⟩, ?_⟩
          dsimp only
          have bi1 := bd (i + 1) (by omega)
          have : ((i + 1 : Nat) : Int) * U = i * U + U := by rw [Int.natCast_add, Int.add_mul]; simp
          rw [vu_self, vu_self, gp6, gp6, eI i (by omega), eI (i + 1) (by omega), if_neg c4, if_neg c4, this]
          omega
    · rw [i32_lt, eI n (by omega), eU] at c2
      have c4 : 0 ≤ wayF g := by
        rcases hn0 with z | z
        · subst z
          by_cases c5 : 0 ≤ wayF g
          · exact c5
          · rw [if_neg c5] at c2
            have := mm (wayF g + 1) 0 (by omega)
            rw [Int.add_mul] at this
            simp at c2
            omega
        · exact z
      rw [if_pos c4] at c2
      have en1 : (n : Int) < wayF g := by
        have : ¬ wayF g ≤ (n : Int) := fun z => by
          have := mm _ _ z
          omega
        omega
      have hb1 : b = 1 := by rw [← hb, if_pos c4]
      have bi := bd n (by omega)
      have ey : (Int32.ofInt (T - (if 0 ≤ wayF g then (n : Int) else -(n : Int)) * U) - 1000 * g 1).toInt = T - n * U - U := by
        rw [i32_sub (by rw [eI n (by omega), eU, if_pos c4]; omega) (by rw [eI n (by omega), eU, if_pos c4]; omega), eI n (by omega), eU, if_pos c4]
      generalize Int32.ofInt (T - (if 0 ≤ wayF g then (n : Int) else -(n : Int)) * U) - 1000 * g 1 = y at ey
      rw [mup_vu2, gpv]
      refine s5_step vu_self (hP n y) ?_
      rw [stepF_6, vu_vu, ← hb1, next n y (by omega) (by rw [if_pos c4]; exact ey)]
      refine ⟨⟨n + 1, by omega, Or.inr c4, rfl, rfl⟩, ?_⟩
      dsimp only
      have bi1 := bd (n + 1) (by omega)
      have : ((n + 1 : Nat) : Int) * U = n * U + U := by rw [Int.natCast_add, Int.add_mul]; simp
      rw [vu_self, vu_self, gp6, gp6, eI n (by omega), eI (n + 1) (by omega), if_pos c4, if_pos c4, this]
      omega

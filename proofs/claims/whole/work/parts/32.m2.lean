theorem stepM {g1 : Page} {kk : Nat} (hk : kk < 40) : (fun j => if 95 ≤ j ∧ j ≤ 151 then (upd (upd g1 (13 + 2 * kk) 0) 7 (if 50 ≤ g1 7 then g1 7 - 50 else 0)) (j - 3) else if j = 92 then (upd (upd g1 (13 + 2 * kk) 0) 7 (if 50 ≤ g1 7 then g1 7 - 50 else 0)) 5 else if j = 93 then (upd (upd g1 (13 + 2 * kk) 0) 7 (if 50 ≤ g1 7 then g1 7 - 50 else 0)) 8 else if j = 94 then (upd (upd g1 (13 + 2 * kk) 0) 7 (if 50 ≤ g1 7 then g1 7 - 50 else 0)) 7 else if j = 10 then (if 20 ≤ (upd (upd g1 (13 + 2 * kk) 0) 7 (if 50 ≤ g1 7 then g1 7 - 50 else 0)) 10 then 20 else (upd (upd g1 (13 + 2 * kk) 0) 7 (if 50 ≤ g1 7 then g1 7 - 50 else 0)) 10 + 1) else (upd (upd g1 (13 + 2 * kk) 0) 7 (if 50 ≤ g1 7 then g1 7 - 50 else 0)) j) = hitF g1 kk := by
  have e : (upd (upd g1 (13 + 2 * kk) 0) 7 (if 50 ≤ g1 7 then g1 7 - 50 else 0)) 10 = g1 10 := by
    simp (disch := omega) only [updE, if_neg]
  rw [e]
  rfl
theorem s5_step {a : Nat} {g : Page} {b : Int32} {M : Mem} {Q : Int32 → Mem → Prop} (s : M a = g) (v : PinsOK g) (k : Q (stepF b g).2.1 (va_up M a (stepF b g).1)) : wp_X5_step a 212 b M Q := by
  obtain ⟨v9, vp⟩ := id v
  have hp : pn g ≤ 40 := by unfold pn; omega
  simp only [wp_X5_step, forall_eq]
  rw [s]
  have p5 : vp_in 5 212 := vp212 (n := 5) (by decide)
  have p7 : vp_in 7 212 := vp212 (n := 7) (by decide)
  have p3 : vp_in 3 212 := vp212 (n := 3) (by decide)
  refine ⟨p5, s_around5 ⟨p5, p5, ?_⟩⟩
  rw [mup_vu, s, vu_self]
  have e5 : upd g 5 (aroundF (g 5 + b)) 5 = aroundF (g 5 + b) := by rw [updE, if_pos rfl]
  have en : ∀ j, j ≠ 5 → upd g 5 (aroundF (g 5 + b)) j = g j := fun j hj => by rw [updE, if_neg hj]
  rw [e5]
  refine s5_pinAt vu_self (by rw [en 9 (by decide)]; exact v9) ?_
  simp only [vu_self]
  rcases step_full0 v b with ⟨a1, a2⟩ | ⟨kk, hkk, a1, a2, a3⟩
  · rw [a1]
    rw [a2] at k
    exact ⟨fun _ => k, fun c => absurd rfl c⟩
  · rw [a1]
    have hk40 : kk < 40 := by omega
    have hne : ¬ nI kk = -9 := by
      rw [i32_eq, nI_toInt (by omega)]
      have : (-9 : Int32).toInt = -9 := rfl
      omega
    refine ⟨fun c => absurd c hne, fun _ => ?_⟩
    have ei : (12 : Int32) + 2 * nI kk + 1 = nI (13 + 2 * kk) := by rw [nI_lit2, nI_12, nI_1]; congr 1; omega
    rw [ei, nI_clamp (by omega)]
    have pv13 : vp_in (nI (13 + 2 * kk)) 212 := vp212 (by omega)
    generalize hg1 : upd g 5 (aroundF (g 5 + b)) = g1 at *
    simp only [mup_vu2, vu_self]
    have r7 : upd g1 (13 + 2 * kk) 0 7 = g1 7 := by rw [updE, if_neg (by omega)]
    rw [r7, en 7 (by decide), en 3 (by decide), en _ (by omega)]
    refine ⟨pv13, ?_⟩
    rcases a3 with ⟨b1, b2⟩ | ⟨b1, b2, b3⟩ | ⟨b1, b2, b3⟩
    · rw [b2] at k
      have : g (13 + 2 * kk) = 0 := (vp kk hkk).2.2.resolve_right b1
      exact ⟨fun _ => k, fun c => absurd this c⟩
    · rw [b3] at k
      refine ⟨fun _ => k, fun _ => ⟨p7, p3, fun c => ?_, fun _ => k⟩⟩
      rw [i32_le] at c
      rw [i32_lt] at b2
      omega
    · rw [b3] at k
      refine ⟨fun c => absurd c (by rw [b1]; decide), fun _ => ⟨p7, p3, fun _ => ⟨pv13, p7, fun c => ⟨p7, p7, ?_⟩, fun c => ⟨p7, ?_⟩⟩, fun c => ?_⟩⟩
      · refine s5_ledger (M0 := M) ?_
        have e := stepM (g1 := g1) hk40
        rw [en 7 (by decide), if_pos c] at e
        rw [e]; exact k
      · refine s5_ledger (M0 := M) ?_
        have e := stepM (g1 := g1) hk40
        rw [en 7 (by decide), if_neg c] at e
        rw [e]; exact k
      · rw [i32_le] at c
        rw [i32_lt] at b2
        omega
/-! a step does not look at the offset -/
theorem pinGo_cong {g g' : Page} {p : Int32} : ∀ f k, (∀ j, k ≤ j → j < k + f → g (12 + 2 * j) = g' (12 + 2 * j)) → pinGo g p f k = pinGo g' p f k
  | 0, _, _ => rfl
  | f + 1, k, h => by
    unfold pinGo
    rw [h k (Nat.le_refl _) (by omega), pinGo_cong f (k + 1) (fun j a b => h j (by omega) (by omega))]
theorem pinF_cong {g g' : Page} {p : Int32} (e : g 9 = g' 9) (h : ∀ j, j < pn g → g (12 + 2 * j) = g' (12 + 2 * j)) : pinF g p = pinF g' p := by
  have : pn g' = pn g := by unfold pn; rw [e]
  unfold pinF
  rw [this]
  exact pinGo_cong _ _ (fun j _ b => h j (by omega))
theorem upd_comm {g : Page} {i j : Nat} {x y : Int32} (h : i ≠ j) : upd (upd g i x) j y = upd (upd g j y) i x := by
  funext z
  simp only [updE]
  split <;> split <;> simp_all
theorem upd_upd {g : Page} {i : Nat} {x y : Int32} : upd (upd g i x) i y = upd g i y := by
  funext z
  simp only [updE]
  split <;> simp_all
theorem hitF_6 (g : Page) (x : Int32) {k : Nat} : hitF (upd g 6 x) k = upd (hitF g k) 6 x := by
  have e : ∀ j, j ≠ 6 → upd g 6 x j = g j := fun j h => by rw [updE, if_neg h]
  have e3 : upd (upd (upd g 6 x) (13 + 2 * k) 0) 7 (if 50 ≤ g 7 then g 7 - 50 else 0) = upd (upd (upd g (13 + 2 * k) 0) 7 (if 50 ≤ g 7 then g 7 - 50 else 0)) 6 x := by
    rw [upd_comm (i := 6) (j := 13 + 2 * k) (by omega), upd_comm (i := 6) (j := 7) (by decide)]
  unfold hitF
  rw [e 7 (by decide), e 10 (by decide), e3]
  generalize upd (upd g (13 + 2 * k) 0) 7 (if 50 ≤ g 7 then g 7 - 50 else 0) = g3
  have e' : ∀ j, j ≠ 6 → upd g3 6 x j = g3 j := fun j h => by rw [updE, if_neg h]
  funext j
  simp only []
  have er : ∀ (f : Page), upd f 6 x j = if j = 6 then x else f j := fun f => updE _ _ _ _
  rw [e' 5 (by decide), e' 8 (by decide), e' 7 (by decide)]
  simp only [er]
  by_cases c1 : 95 ≤ j ∧ j ≤ 151
  · rw [if_pos c1, if_pos c1, if_neg (by omega), e' _ (by omega)]
  · rw [if_neg c1, if_neg c1]
    by_cases c6 : j = 6
    · subst c6; simp (disch := omega) only [if_neg, ite_true]
    · rw [if_neg c6, if_neg c6]
theorem stepF_6 (b : Int32) (g : Page) (x : Int32) : stepF b (upd g 6 x) = (upd (stepF b g).1 6 x, (stepF b g).2) := by
  have e5 : upd g 6 x 5 = g 5 := by rw [updE, if_neg (by decide)]
  unfold stepF
  rw [e5]
  simp only []
  rw [upd_comm (i := 6) (j := 5) (by decide)]
  generalize upd g 5 (aroundF (g 5 + b)) = g1
  have e' : ∀ j, j ≠ 6 → upd g1 6 x j = g1 j := fun j h => by rw [updE, if_neg h]
  rw [e' 5 (by decide), e' 7 (by decide), e' 3 (by decide), pinF_cong (g := upd g1 6 x) (g' := g1) (e' 9 (by decide)) (fun j _ => e' _ (by omega)), e' _ (by omega)]
  split
  · rfl
  · split
    · rfl
    · split
      · rfl
      · rw [hitF_6]
theorem stepN_6 (b : Int32) (x : Int32) : ∀ (n : Nat) (g : Page) (r : Int32 × Int32), stepN b n (upd g 6 x, r) = (upd (stepN b n (g, r)).1 6 x, (stepN b n (g, r)).2)
  | 0, _, _ => rfl
  | n + 1, g, r => by
    show (let t := stepN b n (upd g 6 x, r); let r' := stepF b t.1; (r'.1, t.2.1 + r'.2.1, if t.2.2 = -9 then r'.2.2 else t.2.2)) = _
    rw [stepN_6 b x n g r]
    simp only []
    rw [stepF_6]
    rfl

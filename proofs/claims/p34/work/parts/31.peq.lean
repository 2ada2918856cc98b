theorem pinGo_cong {g g' : Page} {p : Int32} : ∀ f k, (∀ j, k ≤ j → j < k + f → g (12 + 2 * j) = g' (12 + 2 * j)) → pinGo g p f k = pinGo g' p f k
  | 0, _, _ => rfl
  | f + 1, k, h => by
    unfold pinGo
    rw [h k (Nat.le_refl _) (by omega), pinGo_cong f (k + 1) (fun j a b => h j (by omega) (by omega))]
theorem pinF_cong {g g' : Page} {p : Int32} (e : g 9 = g' 9) (h : ∀ j, j < pn g → g (12 + 2 * j) = g' (12 + 2 * j)) : pinF g p = pinF g' p := by
  have : pn g' = pn g := by unfold pn; rw [e]
  unfold pinF
  rw [this]
  exact pinGo_cong _ _ (fun j _ b => h j (by omega))
/-! PAGES THAT HOLD THE SAME -/
theorem PEq.rfl' {g : Page} : PEq g g := ⟨fun _ _ => rfl, fun _ _ => ⟨rfl, rfl⟩, fun _ _ => rfl, fun _ _ => rfl⟩
theorem PEq.lo {h g : Page} (e : PEq h g) {j : Nat} (hj : j < 12) : h j = g j := e.1 j hj
theorem PEq.epn {h g : Page} (e : PEq h g) : pn h = pn g := by unfold pn; rw [e.lo (by decide)]
theorem PEq.ern {h g : Page} (e : PEq h g) : rn h = rn g := by unfold rn; rw [e.lo (by decide)]
theorem PEq.symm {h g : Page} (e : PEq h g) : PEq g h :=
  ⟨fun j hj => (e.1 j hj).symm, fun k hk => by rw [e.epn] at hk; exact ⟨(e.2.1 k hk).1.symm, (e.2.1 k hk).2.symm⟩, fun j hj => by rw [e.lo (by decide)] at hj; exact (e.2.2.1 j hj).symm, fun j hj => by rw [e.ern] at hj; exact (e.2.2.2 j hj).symm⟩
theorem pn_upd {g : Page} {j : Nat} {x : Int32} (h : j ≠ 9) : pn (upd g j x) = pn g := by unfold pn; rw [updE, if_neg (by omega)]
theorem rn_upd {g : Page} {j : Nat} {x : Int32} (h : j ≠ 11) : rn (upd g j x) = rn g := by unfold rn; rw [updE, if_neg (by omega)]
theorem PEq_upd {h g : Page} {j : Nat} {x : Int32} (e : PEq h g) (hj : j < 9) : PEq (upd h j x) (upd g j x) := by
  have t : ∀ i, h i = g i → upd h j x i = upd g j x i := fun i hi => by
    simp only [updE]; split
    · rfl
    · exact hi
  refine ⟨fun i hi => t i (e.1 i hi), fun k hk => ?_, fun i hi => ?_, fun i hi => ?_⟩
  · rw [pn_upd (by omega)] at hk
    exact ⟨t _ (e.2.1 k hk).1, t _ (e.2.1 k hk).2⟩
  · rw [updE, if_neg (by omega)] at hi
    exact t _ (e.2.2.1 i hi)
  · rw [rn_upd (by omega)] at hi
    exact t _ (e.2.2.2 i hi)
theorem PEq_gain {h g : Page} {x : Int32} (e : PEq h g) : PEq (gainF h x) (gainF g x) := by
  unfold gainF; rw [e.lo (by decide)]; exact PEq_upd e (by decide)
theorem PEq_lose {h g : Page} {x : Int32} (e : PEq h g) : PEq (loseF h x) (loseF g x) := by
  unfold loseF; rw [e.lo (by decide)]; exact PEq_upd e (by decide)
theorem PEq_nudge {h g : Page} {x : Int32} (e : PEq h g) : PEq (nudgeF h x) (nudgeF g x) := by
  unfold nudgeF; rw [e.lo (j := 5) (by decide)]; exact PEq_upd (PEq_lose (PEq_upd e (by decide))) (by decide)
theorem PEq_set {h g : Page} {w : Nat} {x : Int32} (hw : w < 5) (e : PEq h g) : PEq (setF h w x) (setF g w x) := by
  unfold setF
  split
  · exact PEq_upd (PEq_upd e (by omega)) (by decide)
  · exact PEq_upd e (by omega)
theorem PEq_drag {h g : Page} (e : PEq h g) : PEq (dragF h) (dragF g) := by
  unfold dragF
  dsimp only
  rw [e.lo (j := 7) (by decide), e.lo (j := 2) (by decide)]
  have e1 := PEq_lose (x := g 7 * g 2 / 10000 + 1) e
  rw [e1.lo (j := 4) (by decide)]
  exact PEq_gain e1
theorem pn_put (g : Page) (p : Int32) (hn : 0 ≤ (g 9).toInt ∧ (g 9).toInt < 40) : pn (putF g p) = pn g + 1 := by
  unfold pn putF
  rw [updE, if_pos rfl, i32_add] <;> rw [show (1 : Int32).toInt = 1 from rfl] <;> omega
theorem PEq_put {h g : Page} {p : Int32} (hn : 0 ≤ (g 9).toInt ∧ (g 9).toInt < 40) (e : PEq h g) : PEq (putF h p) (putF g p) := by
  have hp : pn g < 40 := by unfold pn; omega
  have t : ∀ i, h i = g i → putF h p i = putF g p i := fun i hi => by
    unfold putF
    simp only [updE, e.epn, e.lo (j := 9) (by decide), hi]
  refine ⟨fun i hi => t i (e.1 i hi), fun k hk => ?_, fun i hi => ?_, fun i hi => ?_⟩
  · rw [pn_put g p hn] at hk
    by_cases c : k < pn g
    · exact ⟨t _ (e.2.1 k c).1, t _ (e.2.1 k c).2⟩
    · have : k = pn g := by omega
      subst this
      unfold putF
      rw [e.epn]
      simp (disch := omega) only [updE, if_pos, if_neg, ite_true]
      exact ⟨trivial, trivial⟩
  · have : putF g p 10 = g 10 := by unfold putF; simp (disch := omega) only [updE, if_neg]
    rw [this] at hi
    exact t _ (e.2.2.1 i hi)
  · have : rn (putF g p) = rn g := by unfold rn putF; simp (disch := omega) only [updE, if_neg]
    rw [this] at hi
    exact t _ (e.2.2.2 i hi)
theorem PEq_raise {h g : Page} (hn : 0 ≤ (g 9).toInt ∧ (g 9).toInt ≤ 40) (e : PEq h g) : PEq (raiseF h) (raiseF g) := by
  have hp : pn g ≤ 40 := by unfold pn; omega
  have t : ∀ i, h i = g i → raiseF h i = raiseF g i := fun i hi => by
    unfold raiseF
    rw [e.epn, hi]
  have lo : ∀ i, i < 12 → raiseF g i = g i := fun i hi => by unfold raiseF; rw [if_neg (by omega)]
  refine ⟨fun i hi => t i (e.1 i hi), fun k hk => ?_, fun i hi => ?_, fun i hi => ?_⟩
  · have : pn (raiseF g) = pn g := by unfold pn; rw [lo 9 (by decide)]
    rw [this] at hk
    exact ⟨t _ (e.2.1 k hk).1, t _ (e.2.1 k hk).2⟩
  · rw [lo 10 (by decide)] at hi
    exact t _ (e.2.2.1 i hi)
  · have : rn (raiseF g) = rn g := by unfold rn; rw [lo 11 (by decide)]
    rw [this] at hi
    exact t _ (e.2.2.2 i hi)
theorem sum_cong {h g : Page} : ∀ n, (∀ k, k < n → h (13 + 2 * k) = g (13 + 2 * k)) → sumGo h n = sumGo g n
  | 0, _ => rfl
  | n + 1, e => by
    unfold sumGo
    rw [sum_cong n (fun k hk => e k (by omega)), e n (by omega)]
theorem PEq_stand {h g : Page} (e : PEq h g) : standF h = standF g := by
  unfold standF
  rw [e.epn]
  exact sum_cong _ (fun k hk => (e.2.1 k hk).2)
theorem PEq_pin {h g : Page} {p : Int32} (e : PEq h g) : pinF h p = pinF g p :=
  pinF_cong (e.lo (by decide)) (fun j hj => by rw [e.epn] at hj; exact (e.2.1 j hj).1)
theorem PEq_read {h g : Page} (hn : 0 ≤ (g 11).toInt ∧ (g 11).toInt < 20) (hm : 0 ≤ (g 9).toInt ∧ (g 9).toInt ≤ 40) (ht : (g 10).toInt ≤ 20) (e : PEq h g) : PEq (readF h) (readF g) := by
  have hp : rn g < 20 := by unfold rn; omega
  have hp2 : pn g ≤ 40 := by unfold pn; omega
  have t : ∀ i, h i = g i → readF h i = readF g i := fun i hi => by
    unfold readF
    simp only [updE, e.ern, e.lo (j := 11) (by decide), e.lo (j := 8) (by decide), e.lo (j := 5) (by decide), e.lo (j := 7) (by decide), hi]
  refine ⟨fun i hi => t i (e.1 i hi), fun k hk => ?_, fun i hi => ?_, fun i hi => ?_⟩
  · have : pn (readF g) = pn g := by unfold pn readF; simp (disch := omega) only [updE, if_neg]
    rw [this] at hk
    exact ⟨t _ (e.2.1 k hk).1, t _ (e.2.1 k hk).2⟩
  · have : readF g 10 = g 10 := by unfold readF; simp (disch := omega) only [updE, if_neg]
    rw [this] at hi
    exact t _ (e.2.2.1 i hi)
  · have er : rn (readF g) = rn g + 1 := by
      unfold rn readF
      rw [updE, if_pos rfl, i32_add] <;> rw [show (1 : Int32).toInt = 1 from rfl] <;> omega
    rw [er] at hi
    by_cases c : i < 3 * rn g
    · exact t _ (e.2.2.2 i c)
    · unfold readF
      rw [e.ern, e.lo (j := 8) (by decide), e.lo (j := 5) (by decide), e.lo (j := 7) (by decide)]
      rcases (show i = 3 * rn g ∨ i = 3 * rn g + 1 ∨ i = 3 * rn g + 2 by omega) with z | z | z <;> subst z <;> simp (disch := omega) only [updE, if_pos, if_neg, ite_true]
theorem hitF_lo (g : Page) (k : Nat) {i : Nat} (h : i < 92 ∨ 151 < i) : hitF g k i = if i = 10 then (if 20 ≤ g 10 then 20 else g 10 + 1) else upd (upd g (13 + 2 * k) 0) 7 (if 50 ≤ g 7 then g 7 - 50 else 0) i := by
  unfold hitF
  rw [if_neg (show ¬ (95 ≤ i ∧ i ≤ 151) by omega), if_neg (show ¬ i = 92 by omega), if_neg (show ¬ i = 93 by omega), if_neg (show ¬ i = 94 by omega)]
theorem hitF_hi (g : Page) (k : Nat) {i : Nat} (h : 95 ≤ i ∧ i ≤ 151) : hitF g k i = upd (upd g (13 + 2 * k) 0) 7 (if 50 ≤ g 7 then g 7 - 50 else 0) (i - 3) := by
  unfold hitF
  rw [if_pos h]
theorem PEq_hit {h g : Page} {k : Nat} (ht : 0 ≤ (g 10).toInt ∧ (g 10).toInt ≤ 20) (hm : 0 ≤ (g 9).toInt ∧ (g 9).toInt ≤ 40) (hk : k < pn g) (e : PEq h g) : PEq (hitF h k) (hitF g k) := by
  have hp : pn g ≤ 40 := by unfold pn; omega
  have t3 : ∀ i, h i = g i → upd (upd h (13 + 2 * k) 0) 7 (if 50 ≤ h 7 then h 7 - 50 else 0) i = upd (upd g (13 + 2 * k) 0) 7 (if 50 ≤ g 7 then g 7 - 50 else 0) i := fun i hi => by
    simp only [updE, e.lo (j := 7) (by decide), hi]
  have t : ∀ i, i < 92 ∨ 151 < i → h i = g i → hitF h k i = hitF g k i := fun i h1 hi => by
    rw [hitF_lo h k h1, hitF_lo g k h1, e.lo (j := 10) (by decide), t3 i hi]
  have e9 : hitF g k 9 = g 9 := by unfold hitF; simp (disch := omega) only [updE, if_neg]
  have e11 : hitF g k 11 = g 11 := by unfold hitF; simp (disch := omega) only [updE, if_neg]
  have e10 : hitF g k 10 = (if 20 ≤ g 10 then 20 else g 10 + 1) := by unfold hitF; simp (disch := omega) only [if_neg, ite_true]
  have n10 : (hitF g k 10).toInt.toNat ≤ (g 10).toInt.toNat + 1 ∧ (hitF g k 10).toInt.toNat ≤ 20 := by
    rw [e10]
    split
    · rename_i c
      rw [i32_le] at c
      have d : (20 : Int32).toInt = 20 := rfl
      rw [d] at c ⊢
      omega
    · rename_i c
      rw [i32_le] at c
      have d : (20 : Int32).toInt = 20 := rfl
      have d1 : (1 : Int32).toInt = 1 := rfl
      rw [d] at c
      rw [i32_add (by rw [d1]; omega) (by rw [d1]; omega), d1]
      omega
  refine ⟨fun i hi => t i (by omega) (e.1 i hi), fun k2 hk2 => ?_, fun i hi => ?_, fun i hi => ?_⟩
  · have : pn (hitF g k) = pn g := by unfold pn; rw [e9]
    rw [this] at hk2
    exact ⟨t _ (by omega) (e.2.1 k2 hk2).1, t _ (by omega) (e.2.1 k2 hk2).2⟩
  · by_cases c0 : i = 0
    · subst c0
      unfold hitF
      simp (disch := omega) only [if_neg, ite_true]
      exact t3 5 (e.lo (by decide))
    · by_cases c1 : i = 1
      · subst c1
        unfold hitF
        simp (disch := omega) only [if_neg, ite_true]
        exact t3 8 (e.lo (by decide))
      · by_cases c2 : i = 2
        · subst c2
          unfold hitF
          simp (disch := omega) only [if_neg, ite_true]
          exact t3 7 (e.lo (by decide))
        · rw [hitF_hi _ _ (by omega), hitF_hi _ _ (by omega)]
          have : 92 + i - 3 = 92 + (i - 3) := by omega
          rw [this]
          exact t3 _ (e.2.2.1 _ (by omega))
  · have : rn (hitF g k) = rn g := by unfold rn; rw [e11]
    rw [this] at hi
    exact t _ (by omega) (e.2.2.2 i hi)

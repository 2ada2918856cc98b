theorem mup_s {M : Mem} {a k : Nat} {v : Int32} {g : Page} (s : M a = g) : mup M a k v = va_up M a (upd g k v) := by rw [mup_vu, s]
theorem stepF_f (b : Int32) : ∀ (n : Nat) (g : Page) (c f f' : Int32), (stepN b n (g, c, f)).1 = (stepN b n (g, c, f')).1 ∧ (stepN b n (g, c, f)).2.1 = (stepN b n (g, c, f')).2.1
  | 0, _, _, _, _ => ⟨rfl, rfl⟩
  | n + 1, g, c, f, f' => by
    obtain ⟨h1, h2⟩ := stepF_f b n g c f f'
    constructor
    · show (stepF b (stepN b n (g, c, f)).1).1 = (stepF b (stepN b n (g, c, f')).1).1
      rw [h1]
    · show (stepN b n (g, c, f)).2.1 + (stepF b (stepN b n (g, c, f)).1).2.1 = (stepN b n (g, c, f')).2.1 + (stepF b (stepN b n (g, c, f')).1).2.1
      rw [h1, h2]
theorem turnF_f (g : Page) (f f' : Int32) : (turnF g f).1 = (turnF g f').1 ∧ (turnF g f).2.1 = (turnF g f').2.1 := by
  unfold turnF
  split
  · dsimp only
    unfold moveF
    obtain ⟨h1, h2⟩ := stepF_f (if 0 ≤ wayF g then 1 else -1) (wayF g).natAbs (upd g 6 (restF g)) 0 f f'
    rw [h1, h2]
    exact ⟨rfl, rfl⟩
  · exact ⟨rfl, rfl⟩
theorem turnN_f : ∀ (n : Nat) (g : Page) (c f f' : Int32), (turnN n (g, c, f)).1 = (turnN n (g, c, f')).1 ∧ (turnN n (g, c, f)).2.1 = (turnN n (g, c, f')).2.1
  | 0, _, _, _, _ => ⟨rfl, rfl⟩
  | n + 1, g, c, f, f' => by
    obtain ⟨h1, h2⟩ := turnN_f n g c f f'
    constructor
    · show (turnF (turnN n (g, c, f)).1 (turnN n (g, c, f)).2.2).1 = (turnF (turnN n (g, c, f')).1 (turnN n (g, c, f')).2.2).1
      rw [h1]; exact (turnF_f _ _ _).1
    · show (turnN n (g, c, f)).2.1 + (turnF (turnN n (g, c, f)).1 (turnN n (g, c, f)).2.2).2.1 = (turnN n (g, c, f')).2.1 + (turnF (turnN n (g, c, f')).1 (turnN n (g, c, f')).2.2).2.1
      rw [h1, h2, (turnF_f _ _ _).2]
theorem s5_turnsOn {a : Nat} (ha : a ≠ 125) {g : Page} {n : Nat} (hn : n < 100000) {M : Mem} {Q : Int32 → Mem → Prop} (s : M a = g) (v : Val g) (hr : RowOK M) (k : Q (turnN n (g, 0, -9)).2.1 (va_up M a (turnN n (g, 0, -9)).1)) : wp_X5_turnsOn a 212 (nI n) M Q := by
  refine ⟨fun w c M' => ∃ j, j ≤ n ∧ w = nI j ∧ c = (turnN j (g, 0, -9)).2.1 ∧ M' = va_up M a (turnN j (g, 0, -9)).1, fun w _ _ => 100000 - w.toNatClampNeg, ⟨0, Nat.zero_le _, rfl, rfl, by show M = va_up M a g; rw [← s, vu_id]⟩, ?_⟩
  rintro w c M' ⟨j, hj, rfl, rfl, rfl⟩
  simp only [forall_eq]
  rw [nI_leI (by omega) (by omega)]
  refine ⟨fun c => ?_, fun c => ?_⟩
  · have : j = n := by omega
    subst this
    exact k
  · refine s5_turnOn vu_self (Val_turnN j (s := (g, 0, -9)) v) (RowOK_vu hr ha) ?_
    rw [vu_vu]
    refine ⟨⟨j + 1, by omega, nI_1 j, ?_, ?_⟩, ?_⟩
    · show _ = (turnN j (g, 0, -9)).2.1 + (turnF (turnN j (g, 0, -9)).1 (turnN j (g, 0, -9)).2.2).2.1
      rw [(turnF_f _ _ _).2]
    · show _ = va_up M a (turnF (turnN j (g, 0, -9)).1 (turnN j (g, 0, -9)).2.2).1
      rw [(turnF_f _ _ _).1]
    · rw [nI_1, nI_clamp (by omega), nI_clamp (by omega)]
      omega
theorem s5_pushOn {a : Nat} {g : Page} {x : Int32} {M : Mem} {Q : Mem → Prop} (s : M a = g) (k : Q (va_up M a (gainF g x))) : wp_X5_pushOn a 212 x M Q := by
  have p7 : vp_in 7 212 := vp212 (n := 7) (by decide)
  simp only [wp_X5_pushOn, forall_eq]
  rw [mup_vu, mup_vu, s]
  unfold gainF at k
  generalize g 7 + x = z at k
  refine ⟨p7, fun c => ⟨p7, p7, ?_⟩, fun c => ⟨p7, ?_⟩⟩
  · by_cases c2 : z < 9999
    · rw [if_pos c2] at k; exact k
    · rw [if_neg c2] at k
      have : z = 9999 := by
        rw [i32_le] at c; rw [i32_lt] at c2
        rw [i32_eq]; omega
      rw [this]; exact k
  · rw [if_neg] at k
    · exact k
    · rw [i32_le] at c; rw [i32_lt]; omega
theorem lose_le (z : Int32) : (if 0 < z then z else 0) = (if 0 ≤ z then z else 0) := by
  by_cases c : 0 < z
  · rw [if_pos c, if_pos]
    rw [i32_lt] at c; rw [i32_le]; omega
  · rw [if_neg c]
    by_cases c2 : 0 ≤ z
    · rw [if_pos c2]
      rw [i32_lt] at c; rw [i32_le] at c2
      rw [i32_eq]; omega
    · rw [if_neg c2]
theorem s5_nudgeOn {a : Nat} {g : Page} {x : Int32} {M : Mem} {Q : Mem → Prop} (s : M a = g) (k : Q (va_up M a (nudgeF g x))) : wp_X5_nudgeOn a 212 x M Q := by
  have p7 : vp_in 7 212 := vp212 (n := 7) (by decide)
  have p5 : vp_in 5 212 := vp212 (n := 5) (by decide)
  have p6 : vp_in 6 212 := vp212 (n := 6) (by decide)
  simp only [wp_X5_nudgeOn, forall_eq]
  rw [s]
  unfold nudgeF loseF at k
  rw [lose_le] at k
  have e7 : upd g 5 (aroundF (g 5 + x)) 7 = g 7 := by rw [updE, if_neg (by decide)]
  rw [e7] at k
  refine ⟨p7, fun c => ⟨p5, s_around5 ⟨p5, ?_⟩⟩, fun c => ⟨p5, s_around5 ⟨p5, ?_⟩⟩⟩
  · have ea : absF x = x := by unfold absF; rw [if_pos c]
    rw [ea] at k
    rw [mup_s s]
    simp only [mup_vu2]
    refine ⟨fun c2 => ⟨p7, p6, ?_⟩, fun c2 => ⟨p7, p6, ?_⟩⟩
    · rw [if_pos c2] at k; exact k
    · rw [if_neg c2] at k; exact k
  · have ea : absF x = -x := by
      unfold absF; rw [if_neg c, Int32.zero_sub]
    rw [ea] at k
    rw [mup_s s]
    simp only [mup_vu2]
    refine ⟨fun c2 => ⟨p7, p6, ?_⟩, fun c2 => ⟨p7, p6, ?_⟩⟩
    · rw [if_pos c2] at k; exact k
    · rw [if_neg c2] at k; exact k
theorem s5_setOn {a w : Nat} (hw : w < 5) {g : Page} {x : Int32} {M : Mem} {Q : Mem → Prop} (s : M a = g) (k : Q (va_up M a (setF g w x))) : wp_X5_setOn a 212 (nI w) x M Q := by
  have p6 : vp_in 6 212 := vp212 (n := 6) (by decide)
  have e1 : nI w = 1 ↔ w = 1 := by
    rw [i32_eq, nI_toInt (by omega)]
    have : (1 : Int32).toInt = 1 := rfl
    omega
  simp only [wp_X5_setOn, forall_eq]
  rw [nI_clamp (by omega), mup_s s, vu_self, e1]
  unfold setF at k
  refine ⟨vp212 (by omega), fun c => ⟨p6, p6, ?_⟩, fun c => ⟨p6, ?_⟩⟩
  · rw [if_neg c] at k
    rw [mup_vu2, upd_id rfl]
    exact k
  · rw [if_pos c] at k
    rw [mup_vu2]
    exact k
theorem s5_standing {a : Nat} {g : Page} {M : Mem} {Q : Int32 → Mem → Prop} (s : M a = g) (hn : 0 ≤ (g 9).toInt ∧ (g 9).toInt ≤ 40) (k : Q (standF g) M) : wp_X5_standing a 212 M Q := by
  have e9 : g 9 = nI (pn g) := nI_of_toInt hn.1
  have hp : pn g ≤ 40 := by unfold pn; omega
  refine ⟨fun w c M' => M' = M ∧ ∃ j, j ≤ pn g ∧ w = nI j ∧ c = sumGo g j, fun w _ _ => 100 - w.toNatClampNeg, ⟨rfl, 0, Nat.zero_le _, rfl, rfl⟩, ?_⟩
  rintro w c M' ⟨rfl, j, hj, rfl, rfl⟩
  simp only [forall_eq]
  have ei : (12 : Int32) + 2 * nI j + 1 = nI (13 + 2 * j) := by rw [nI_lit2, nI_12, nI_1]; congr 1; omega
  rw [s, e9, nI_leI (by omega) (by omega), ei, nI_clamp (by omega)]
  refine ⟨vp212 (n := 9) (by decide), fun c => ?_, fun c => ⟨vp212 (by omega), ⟨⟨trivial, j + 1, by omega, nI_1 j, rfl⟩, ?_⟩⟩⟩
  · have : j = pn g := by omega
    subst this
    exact k
  · rw [nI_1, nI_clamp (by omega), nI_clamp (by omega)]
    omega
theorem s5_raiseOn {a : Nat} {g : Page} {M : Mem} {Q : Mem → Prop} (s : M a = g) (hn : 0 ≤ (g 9).toInt ∧ (g 9).toInt ≤ 40) (k : Q (va_up M a (raiseF g))) : wp_X5_raiseOn a 212 M Q := by
  have e9 : g 9 = nI (pn g) := nI_of_toInt hn.1
  have hp : pn g ≤ 40 := by unfold pn; omega
  refine ⟨fun w M' => ∃ j, j ≤ pn g ∧ w = nI j ∧ M' = va_up M a (raiseTo g j), fun w _ => 100 - w.toNatClampNeg, ⟨0, Nat.zero_le _, rfl, by rw [raiseTo_zero, ← s, vu_id]⟩, ?_⟩
  rintro w M' ⟨j, hj, rfl, rfl⟩
  simp only [forall_eq]
  have ei : (12 : Int32) + 2 * nI j + 1 = nI (13 + 2 * j) := by rw [nI_lit2, nI_12, nI_1]; congr 1; omega
  have er : raiseTo g j 9 = g 9 := by unfold raiseTo; rw [if_neg (by omega)]
  rw [vu_self, er, e9, nI_leI (by omega) (by omega), ei, nI_clamp (by omega), mup_vu2, raiseTo_step]
  refine ⟨vp212 (n := 9) (by decide), fun c => ?_, fun c => ⟨vp212 (by omega), ⟨⟨j + 1, by omega, nI_1 j, rfl⟩, ?_⟩⟩⟩
  · have : j = pn g := by omega
    subst this
    exact k
  · rw [nI_1, nI_clamp (by omega), nI_clamp (by omega)]
    omega
theorem s5_putPin {a : Nat} {g : Page} {p : Int32} {M : Mem} {Q : Mem → Prop} (s : M a = g) (hn : 0 ≤ (g 9).toInt ∧ (g 9).toInt < 40) (k : Q (va_up M a (putF g p))) : wp_X5_putPin a 212 p M Q := by
  have e9 : g 9 = nI (pn g) := nI_of_toInt hn.1
  have hp : pn g < 40 := by unfold pn; omega
  have p9 : vp_in 9 212 := vp212 (n := 9) (by decide)
  simp only [wp_X5_putPin, forall_eq]
  have ei : (12 : Int32) + 2 * nI (pn g) + 1 = nI (13 + 2 * pn g) := by rw [nI_lit2, nI_12, nI_1]; congr 1; omega
  have ei0 : (12 : Int32) + 2 * nI (pn g) = nI (12 + 2 * pn g) := by rw [nI_lit2, nI_12]
  have u1 : upd g (12 + 2 * pn g) p 9 = g 9 := by rw [updE, if_neg (by omega)]
  have u2 : upd (upd g (12 + 2 * pn g) p) (13 + 2 * pn g) 1 9 = g 9 := by rw [updE, if_neg (by omega), u1]
  rw [s, e9, ei0, nI_clamp (by omega), mup_s s, vu_self, u1, e9, ei, nI_clamp (by omega), mup_vu2, vu_self, u2, mup_vu2]
  exact ⟨p9, vp212 (by omega), p9, vp212 (by omega), p9, p9, k⟩
theorem nI_addn (a b : Nat) : nI a + nI b = nI (a + b) := nI_add a b
/-- what a copy of 212 words leaves -/
def cpF (g h : Page) (x y n : Nat) : Page := fun j => if y ≤ j ∧ j < y + n then g (j - y + x) else h j
theorem s5_copyPage {a b na nb x y : Nat} (hab : a ≠ b) (h1 : x + 212 ≤ na) (h2 : y + 212 ≤ nb) (h3 : na < 100000) (h4 : nb < 100000) {M : Mem} {Q : Mem → Prop} (k : Q (va_up M b (cpF (M a) (M b) x y 212))) : wp_X5_copyPage a na b nb (nI x) (nI y) M Q := by
  refine ⟨fun w M' => ∃ j, j ≤ 212 ∧ w = nI j ∧ M' = va_up M b (cpF (M a) (M b) x y j), fun w _ => 300 - w.toNatClampNeg, ⟨0, Nat.zero_le _, rfl, ?_⟩, ?_⟩
  · have : cpF (M a) (M b) x y 0 = M b := by
      funext j; unfold cpF; rw [if_neg (by omega)]
    rw [this, vu_id]
  · rintro w M' ⟨j, hj, rfl, rfl⟩
    simp only [forall_eq]
    rw [show (212 : Int32) = nI 212 from rfl, nI_leI (by omega) (by omega), nI_addn, nI_addn, nI_clamp (by omega), nI_clamp (by omega), mup_vu2, vu_ne hab]
    refine ⟨fun c => ?_, fun c => ⟨vp_in_nI (by omega) (by omega), vp_in_nI (by omega) (by omega), ⟨⟨j + 1, by omega, nI_1 j, ?_⟩, ?_⟩⟩⟩
    · have : j = 212 := by omega
      subst this
      exact k
    · congr 1
      funext z
      simp only [updE]
      unfold cpF
      by_cases c1 : z = y + j
      · subst c1
        rw [if_pos rfl, if_pos (by omega)]
        congr 1; omega
      · rw [if_neg c1]
        by_cases c2 : y ≤ z ∧ z < y + j
        · rw [if_pos c2, if_pos (by omega)]
        · rw [if_neg c2, if_neg (by omega)]
    · rw [nI_1, nI_clamp (by omega), nI_clamp (by omega)]
      omega
def begF (g : Page) : Page := fun j => if j = 0 then 50 else if j = 1 then 240 else if j = 2 then 5 else if j = 3 then 4000 else if j = 7 then 5000 else if j < 212 then 0 else g j
theorem s5_begin {a : Nat} {M : Mem} {Q : Mem → Prop} (k : Q (va_up M a (begF (M a)))) : wp_X5_begin a 212 M Q := by
  refine ⟨fun w M' => ∃ j, j ≤ 212 ∧ w = nI j ∧ M' = va_up M a (fun z => if z < j then 0 else M a z), fun w _ => 300 - w.toNatClampNeg, ⟨0, Nat.zero_le _, rfl, ?_⟩, ?_⟩
  · have : (fun z => if z < 0 then 0 else M a z) = M a := by
      funext z; rw [if_neg (by omega)]
    rw [this, vu_id]
  · rintro w M' ⟨j, hj, rfl, rfl⟩
    simp only [forall_eq]
    have p : ∀ n, n < 12 → vp_in (nI n) 212 := fun n h => vp212 (by omega)
    rw [show (212 : Int32) = nI 212 from rfl, nI_leI (by omega) (by omega), nI_clamp (by omega)]
    simp only [mup_vu2]
    refine ⟨fun c => ⟨p 0 (by decide), p 1 (by decide), p 2 (by decide), p 3 (by decide), p 7 (by decide), ?_⟩, fun c => ⟨vp212 (by omega), ⟨⟨j + 1, by omega, nI_1 j, ?_⟩, ?_⟩⟩⟩
    · have : j = 212 := by omega
      subst this
      have e : upd (upd (upd (upd (upd (fun z => if z < 212 then 0 else M a z) 0 50) 1 240) 2 5) 3 4000) 7 5000 = begF (M a) := by
        funext z
        simp only [updE]
        unfold begF
        by_cases z7 : z = 7
        · subst z7; rfl
        · rw [if_neg z7]
          by_cases z3 : z = 3
          · subst z3; rfl
          · rw [if_neg z3]
            by_cases z2 : z = 2
            · subst z2; rfl
            · rw [if_neg z2]
              by_cases z1 : z = 1
              · subst z1; rfl
              · rw [if_neg z1]
                by_cases z0 : z = 0
                · subst z0; rfl
                · rw [if_neg z0, if_neg z0, if_neg z1, if_neg z2, if_neg z3, if_neg z7]
      rw [e]; exact k
    · congr 1
      funext z
      simp only [updE]
      by_cases c1 : z = j
      · subst c1; rw [if_pos rfl, if_pos (by omega)]
      · rw [if_neg c1]
        by_cases c2 : z < j
        · rw [if_pos c2, if_pos (by omega)]
        · rw [if_neg c2, if_neg (by omega)]
    · rw [nI_1, nI_clamp (by omega)]
      omega

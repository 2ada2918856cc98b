/-! ONE COMMAND OF A SCRIPT -/
theorem nI_div {a b : Nat} (ha : a < 2147483648) (hb : 1 < b) (hb2 : b < 2147483648) : nI a / nI b = nI (a / b) := by
  rw [i32_eq, i32_divp (nI b) (by rw [nI_toInt hb2]; omega) (by rw [nI_toInt ha]; omega), nI_toInt ha, nI_toInt hb2, nI_toInt (by have := Nat.div_le_self a b; omega)]
  exact (Int.natCast_ediv a b).symm
theorem nI_mod {a b : Nat} (ha : a < 2147483648) (hb : 1 < b) (hb2 : b < 2147483648) : nI a - nI a / nI b * nI b = nI (a % b) := by
  rw [nI_div ha hb hb2, nI_mul, Int32.sub_eq_iff_eq_add, nI_addn]
  congr 1
  have := Nat.mod_add_div a b
  rw [Nat.mul_comm] at this
  omega
def setB (w : Nat) (x : Nat) : Bool := decide (w < 5) && decide ((fLEAST w).toInt ≤ x) && decide ((x : Int) ≤ (fMOST w).toInt)
theorem setB_iff {w x : Nat} (hx : x < 1000) : setB w x = true ↔ SetOK w (nI x) := by
  unfold setB SetOK
  rw [Bool.and_eq_true, Bool.and_eq_true, decide_eq_true_iff, decide_eq_true_iff, decide_eq_true_iff, nI_toInt (by omega)]
  by_cases h : w < 5
  · rcases (show w = 0 ∨ w = 1 ∨ w = 2 ∨ w = 3 ∨ w = 4 by omega) with z | z | z | z | z <;> subst z
    · rw [show (fLEAST 0).toInt = -90 from rfl, show (fMOST 0).toInt = 90 from rfl]; omega
    · rw [show (fLEAST 1).toInt = 60 from rfl, show (fMOST 1).toInt = 900 from rfl]; omega
    · rw [show (fLEAST 2).toInt = 0 from rfl, show (fMOST 2).toInt = 99 from rfl]; omega
    · rw [show (fLEAST 3).toInt = 1 from rfl, show (fMOST 3).toInt = 9999 from rfl]; omega
    · rw [show (fLEAST 4).toInt = 0 from rfl, show (fMOST 4).toInt = 99 from rfl]; omega
  · exact ⟨fun z => absurd z.1.1 h, fun z => absurd z.1 h⟩
def ifB (b : Bool) (p g : Page) : Page × Bool := if b = true then (p, true) else (g, false)
def doF (g : Page) (a b c : Nat) : Page × Bool :=
  if a = 1 then ifB (decide (b = 0) && decide (1 ≤ c) && decide (c ≤ 500)) (turnN c (g, 0, -9)).1 g
  else if a = 2 then ifB (setB b c) (setF g b (nI c)) g
  else if a = 3 then ifB (decide (b = 0) && decide (1 ≤ c)) (gainF g (nI c)) g
  else if a = 4 then ifB (decide (b ≤ 1) && decide (c ≤ 600)) (nudgeF g (if b = 0 then nI c else -(nI c))) g
  else if a = 5 then ifB (decide (b = 0) && decide (c = 0)) (raiseF g) g
  else if a = 6 then ifB (decide (b = 0) && decide (standF g = nI c)) g g
  else if a = 7 then ifB (decide (¬ g 7 < nI (1000 * b + c))) g g
  else if a = 8 then ifB (decide (b = 0) && decide (g 5 / 60 = nI c)) g g
  else if a = 9 then ifB (decide (b = 0) && decide (g 10 = nI c)) g g
  else (g, false)
theorem Val_ifB {b : Bool} {p g : Page} (h : b = true → Val p) (hg : Val g) : Val (ifB b p g).1 := by
  unfold ifB
  split
  · rename_i c; exact h c
  · exact hg
theorem Val_do {g : Page} (v : Val g) (a b c : Nat) (hc : c < 1000) : Val (doF g a b c).1 := by
  have nc : (nI c).toInt = c := nI_toInt (by omega)
  unfold doF
  split
  · exact Val_ifB (fun _ => Val_turnN c (s := (g, 0, -9)) v) v
  · split
    · exact Val_ifB (fun z => Val_set v ((setB_iff hc).mp z)) v
    · split
      · exact Val_ifB (fun _ => Val_gain v (by omega)) v
      · split
        · refine Val_ifB (fun z => Val_nudge v ?_) v
          rw [Bool.and_eq_true, decide_eq_true_iff, decide_eq_true_iff] at z
          split
          · omega
          · rw [neg_nI (by omega)]; omega
        · split
          · exact Val_ifB (fun _ => Val_raise v) v
          · split
            · exact Val_ifB (fun _ => v) v
            · split
              · exact Val_ifB (fun _ => v) v
              · split
                · exact Val_ifB (fun _ => v) v
                · split
                  · exact Val_ifB (fun _ => v) v
                  · exact v
theorem PEq_ifB {b b' : Bool} {p p' g g' : Page} (hb : b' = b) (h : b = true → PEq p' p) (hg : PEq g' g) : PEq (ifB b' p' g').1 (ifB b p g).1 ∧ (ifB b' p' g').2 = (ifB b p g).2 := by
  subst hb
  unfold ifB
  split
  · rename_i c; exact ⟨h c, rfl⟩
  · exact ⟨hg, rfl⟩
theorem PEq_do {h g : Page} (v : Val g) (e : PEq h g) (a b c : Nat) (hc : c < 1000) : PEq (doF h a b c).1 (doF g a b c).1 ∧ (doF h a b c).2 = (doF g a b c).2 := by
  have v9 := v.pins.1
  unfold doF
  rw [e.lo (j := 7) (by decide), e.lo (j := 5) (by decide), e.lo (j := 10) (by decide), PEq_stand e]
  split
  · exact PEq_ifB rfl (fun _ => (PEq_turnN c (s := (h, 0, -9)) (t := (g, 0, -9)) v ⟨e, rfl⟩).1) e
  · split
    · exact PEq_ifB rfl (fun z => PEq_set ((setB_iff hc).mp z).1 e) e
    · split
      · exact PEq_ifB rfl (fun _ => PEq_gain e) e
      · split
        · exact PEq_ifB rfl (fun z => PEq_nudge e) e
        · split
          · exact PEq_ifB rfl (fun _ => PEq_raise v9 e) e
          · split
            · exact PEq_ifB rfl (fun _ => e) e
            · split
              · exact PEq_ifB rfl (fun _ => e) e
              · split
                · exact PEq_ifB rfl (fun _ => e) e
                · split
                  · exact PEq_ifB rfl (fun _ => e) e
                  · exact ⟨e, rfl⟩
def b01 (b : Bool) : Int32 := if b = true then 1 else 0
theorem stand_rng {g : Page} (v : Val g) : 0 ≤ (standF g).toInt ∧ (standF g).toInt ≤ 40 := by
  obtain ⟨-, -, -, -, -, -, -, -, v9, -, -, vp, -⟩ := id v
  have hp : pn g ≤ 40 := by unfold pn; omega
  have : ∀ n, n ≤ pn g → 0 ≤ (sumGo g n).toInt ∧ (sumGo g n).toInt ≤ n := by
    intro n
    induction n with
    | zero => intro _; exact ⟨by show 0 ≤ (0 : Int32).toInt; decide, by show (0 : Int32).toInt ≤ 0; decide⟩
    | succ n ih =>
      intro hn
      obtain ⟨a, b⟩ := ih (by omega)
      show 0 ≤ (sumGo g n + g (13 + 2 * n)).toInt ∧ (sumGo g n + g (13 + 2 * n)).toInt ≤ ((n + 1 : Nat) : Int)
      rcases (vp n (by omega)).2.2 with z | z <;> rw [z, i32_add] <;> first | rw [i0]; omega | rw [i1]; omega
  have := this (pn g) (Nat.le_refl _)
  unfold standF
  omega
/-- the reference's command -/
theorem s5_does {a b c : Nat} (ha : a < 10) (hb : b < 10) (hc : c < 1000) {g : Page} {M0 : Mem} {Q : Int32 → Mem → Prop} (v : Val g) (ro : RowOK M0) (k : Q (b01 (doF g a b c).2) (va_up M0 121 (doF g a b c).1)) : wp_X5_does (nI a) (nI b) (nI c) (va_up M0 121 g) Q := by
  have v9 := v.pins.1
  obtain ⟨-, -, -, -, -, -, -, -, -, v10, -⟩ := id v
  have eq : ∀ x y : Nat, x < 2147483648 → y < 2147483648 → (nI x = nI y ↔ x = y) := fun x y hx hy => by rw [i32_eq, nI_toInt hx, nI_toInt hy]; omega
  have q : ∀ y : Nat, y < 100 → (nI a = nI y ↔ a = y) := fun y hy => eq a y (by omega) (by omega)
  have zb : nI b = 0 ↔ b = 0 := eq b 0 (by omega) (by omega)
  have zc : nI c = 0 ↔ c = 0 := eq c 0 (by omega) (by omega)
  have nc : (nI c).toInt = c := nI_toInt (by omega)
  have t0 : b01 true = 1 := rfl
  have f0 : b01 false = 0 := rfl
  have no : ∀ {x : Bool} {p : Page}, x = false → (ifB x p g) = (g, false) := fun h => by unfold ifB; rw [h]; rfl
  have yes : ∀ {x : Bool} {p : Page}, x = true → (ifB x p g) = (p, true) := fun h => by unfold ifB; rw [h]; rfl
  simp only [wp_X5_does, forall_eq]
  rw [show (1 : Int32) = nI 1 from rfl, show (2 : Int32) = nI 2 from rfl, show (3 : Int32) = nI 3 from rfl, show (4 : Int32) = nI 4 from rfl, show (5 : Int32) = nI 5 from rfl, show (6 : Int32) = nI 6 from rfl, show (7 : Int32) = nI 7 from rfl, show (8 : Int32) = nI 8 from rfl, show (9 : Int32) = nI 9 from rfl]
  rw [q 1 (by decide), q 2 (by decide), q 3 (by decide), q 4 (by decide), q 5 (by decide), q 6 (by decide), q 7 (by decide), q 8 (by decide), q 9 (by decide), zb, zc, nI_ltI (by omega) (by omega), show (100 : Int32) = nI 100 from rfl, nI_leI (by omega) (by omega)]
  unfold doF at k
  refine ⟨fun h1 => ?_, fun h1 => ⟨fun h2 => ?_, fun h2 => ⟨fun h3 => ?_, fun h3 => ⟨fun h4 => ?_, fun h4 => ⟨fun h5 => ?_, fun h5 => ⟨fun h6 => ?_, fun h6 => ⟨fun h7 => ?_, fun h7 => ⟨fun h8 => ?_, fun h8 => ⟨fun h9 => ?_, fun h9 => ?_⟩⟩⟩⟩⟩⟩⟩⟩⟩
  · rw [if_pos h1] at k
    refine ⟨fun hb0 => ?_, fun hb0 => s5_in32 1 500 rfl rfl (fun x1 x2 => ⟨fun _ => s5_turnsOn (by decide) (by omega) vu_self v (RowOK_vu ro (by decide)) ?_, fun z => absurd z (by decide)⟩) (fun z => ⟨fun y => absurd rfl y, fun _ => ?_⟩)⟩
    · rw [no (by simp [hb0])] at k; exact k
    · rw [yes (by simp; omega)] at k
      rw [vu_vu]; exact k
    · rw [no (by simp; omega)] at k; exact k
  · rw [if_neg h1, if_pos h2] at k
    refine s5_fits (fun w hw ok => ⟨fun _ => ?_, fun z => absurd z (by decide)⟩) (fun nok => ⟨fun y => absurd rfl y, fun _ => ?_⟩)
    · have : b = w := (eq b w (by omega) (by have := ok.1; omega)).mp hw
      subst this
      rw [yes ((setB_iff hc).mpr ok)] at k
      refine s5_setOn ok.1 vu_self ?_
      rw [vu_vu]; exact k
    · rw [no ?_] at k
      · exact k
      · by_cases z : setB b c = true
        · exact absurd ((setB_iff hc).mp z) (nok b ((setB_iff hc).mp z).1 rfl)
        · exact Bool.eq_false_iff.mpr z
  · rw [if_neg h1, if_neg h2, if_pos h3] at k
    refine ⟨fun hb0 => ?_, fun hb0 => ⟨fun hc0 => s5_pushOn vu_self ?_, fun hc0 => ?_⟩⟩
    · rw [no (by simp [hb0])] at k; exact k
    · rw [yes (by simp; omega)] at k
      rw [vu_vu]; exact k
    · rw [no (by simp; omega)] at k; exact k
  · rw [if_neg h1, if_neg h2, if_neg h3, if_pos h4] at k
    refine ⟨fun hb0 => ?_, fun hb0 => ?_⟩
    · rw [no (by simp; omega)] at k; exact k
    · unfold wp_X5_isNudge
      simp only [forall_eq]
      refine s5_in32 (-600) 600 rfl rfl (fun x1 x2 => ⟨rfl, fun _ => ⟨fun z => s5_nudgeOn vu_self ?_, fun z => s5_nudgeOn vu_self ?_⟩, fun z => absurd z (by decide)⟩) (fun z => ⟨rfl, fun y => absurd rfl y, fun _ => ?_⟩)
      · rw [yes (by simp; omega), if_neg z] at k
        rw [vu_vu]; exact k
      · rw [yes (by simp; omega), if_pos z] at k
        rw [vu_vu]; exact k
      · rw [no (by simp; omega)] at k; exact k
  · rw [if_neg h1, if_neg h2, if_neg h3, if_neg h4, if_pos h5] at k
    refine ⟨fun hb0 => ?_, fun hb0 => ⟨fun hc0 => s5_raiseOn vu_self v9 ?_, fun hc0 => ?_⟩⟩
    · rw [no (by simp [hb0])] at k; exact k
    · rw [yes (by simp; omega)] at k
      rw [vu_vu]; exact k
    · rw [no (by simp; omega)] at k; exact k
  · rw [if_neg h1, if_neg h2, if_neg h3, if_neg h4, if_neg h5, if_pos h6] at k
    have sr := stand_rng v
    refine ⟨fun hb0 => ?_, fun hb0 => ⟨fun hc0 => ?_, fun hc0 => s5_standing vu_self v9 ⟨fun z => ?_, fun z => ?_⟩⟩⟩
    · rw [no (by simp [hb0])] at k; exact k
    · rw [no] at k
      · exact k
      · have : ¬ standF g = nI c := by rw [i32_eq, nc]; omega
        simp [this]
    · rw [no (by simp [z])] at k; exact k
    · rw [yes (by simp [z, hb0])] at k; exact k
  · rw [if_neg h1, if_neg h2, if_neg h3, if_neg h4, if_neg h5, if_neg h6, if_pos h7] at k
    rw [show (1000 : Int32) = nI 1000 from rfl, nI_mul, nI_addn, vu_self]
    refine ⟨fun z => ?_, fun z => ?_⟩
    · rw [no (by simp [z])] at k; exact k
    · rw [yes (by simp [z])] at k; exact k
  · rw [if_neg h1, if_neg h2, if_neg h3, if_neg h4, if_neg h5, if_neg h6, if_neg h7, if_pos h8] at k
    rw [vu_self]
    refine ⟨fun hb0 => ?_, fun hb0 => ⟨fun z => ?_, fun z => ?_⟩⟩
    · rw [no (by simp [hb0])] at k; exact k
    · rw [no (by simp [z])] at k; exact k
    · rw [yes (by simp [z, hb0])] at k; exact k
  · rw [if_neg h1, if_neg h2, if_neg h3, if_neg h4, if_neg h5, if_neg h6, if_neg h7, if_neg h8, if_pos h9] at k
    rw [vu_self]
    refine ⟨fun hb0 => ?_, fun hb0 => ⟨fun hc0 => ?_, fun hc0 => ⟨fun z => ?_, fun z => ?_⟩⟩⟩
    · rw [no (by simp [hb0])] at k; exact k
    · rw [no] at k
      · exact k
      · have : ¬ g 10 = nI c := by rw [i32_eq, nc]; omega
        simp [this]
    · rw [no (by simp [z])] at k; exact k
    · rw [yes (by simp [z, hb0])] at k; exact k
  · rw [if_neg h1, if_neg h2, if_neg h3, if_neg h4, if_neg h5, if_neg h6, if_neg h7, if_neg h8, if_neg h9] at k
    exact k

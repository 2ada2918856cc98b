/-! THE REFERENCE's METHODS ON PAGES -/
theorem vu_self {M : Mem} {a : Nat} {g : Nat → Int32} : va_up M a g a = g := by simp [va_up]
theorem vu_ne {M : Mem} {a c : Nat} {g : Nat → Int32} (h : c ≠ a) : va_up M a g c = M c := by simp [va_up, h]
theorem vu_vu {M : Mem} {a : Nat} {g g' : Nat → Int32} : va_up (va_up M a g) a g' = va_up M a g' := by
  funext c
  by_cases h : c = a <;> simp [va_up, h]
theorem vu_id {M : Mem} {a : Nat} : va_up M a (M a) = M := by
  funext c
  by_cases h : c = a
  · subst h; simp [va_up]
  · simp [va_up, h]
theorem mup_vu (M : Mem) (a k : Nat) (v : Int32) : mup M a k v = va_up M a (upd (M a) k v) := rfl
theorem mup_vu2 (M : Mem) (a k : Nat) (v : Int32) (g : Nat → Int32) : mup (va_up M a g) a k v = va_up M a (upd g k v) := by
  rw [mup_vu, vu_self, vu_vu]
theorem vp212 {n : Nat} (h : n < 212) : vp_in (nI n) 212 := vp_in_nI h (by decide)
theorem s5_pinAt {a : Nat} {g : Page} {p : Int32} {M : Mem} {Q : Int32 → Mem → Prop} (s : M a = g) (hn : 0 ≤ (g 9).toInt ∧ (g 9).toInt ≤ 40) (k : Q (pinF g p) M) : wp_X5_pinAt a 212 p M Q := by
  have e9 : g 9 = nI (pn g) := nI_of_toInt hn.1
  have hp : pn g ≤ 40 := by unfold pn; omega
  refine ⟨fun w M' => M' = M ∧ ∃ j, j ≤ pn g ∧ w = nI j ∧ pinF g p = pinGo g p (pn g - j) j, fun w _ => 100 - w.toNatClampNeg, ⟨rfl, 0, Nat.zero_le _, rfl, rfl⟩, ?_⟩
  rintro w M' ⟨rfl, j, hj, rfl, hr⟩
  simp only [forall_eq]
  rw [s, e9, nI_leI (by omega) (by omega), nI_lit2, nI_12, nI_clamp (by omega)]
  refine ⟨vp_in_nI (n := 9) (by decide) (by decide), fun h1 => ?_, fun h1 => ⟨vp212 (by omega), fun h2 => ?_, fun h2 => ?_⟩⟩
  · have : pn g - j = 0 := by omega
    rw [this] at hr
    rw [hr] at k
    exact k
  · have e : pn g - j = (pn g - (j + 1)) + 1 := by omega
    rw [e, pinGo_step, if_neg h2] at hr
    refine ⟨⟨trivial, j + 1, by omega, nI_1 j, hr⟩, ?_⟩
    rw [nI_1, nI_clamp (by omega), nI_clamp (by omega)]
    omega
  · have e : pn g - j = (pn g - (j + 1)) + 1 := by omega
    rw [e, pinGo_step, if_pos h2] at hr
    rw [hr] at k
    exact k
def RowOK (M : Mem) : Prop := ∀ j, j < 19 → M 125 j = fSINES j
theorem s5_sineOf {x : Int32} {M : Mem} {Q : Int32 → Mem → Prop} (hr : RowOK M) (h1 : -90 ≤ x.toInt) (h2 : x.toInt ≤ 90) (k : Q (sinF x) M) : wp_X5_sineOf x M Q := by
  have ea : absF x = nI x.toInt.natAbs := abs_nI h1 h2
  have en : ∀ c : ¬ 0 ≤ x, -x = nI x.toInt.natAbs := fun c => by
    rw [i32_le, i0] at c
    rw [i32_eq, i32_neg (by omega), nI_toInt (by omega)]; omega
  have ep : ∀ c : 0 ≤ x, x = nI x.toInt.natAbs := fun c => by
    rw [i32_le, i0] at c
    rw [i32_eq, nI_toInt (by omega)]; omega
  obtain ⟨a1, a2, a3⟩ := s_sineA (v := nI x.toInt.natAbs) rfl (by omega)
  obtain ⟨t1, -, -, -, -, t6, -⟩ := sin_tab x.toInt.natAbs (by omega)
  have e0x : ¬ 0 ≤ x → 0 - x = nI x.toInt.natAbs := fun c => by rw [← ea]; unfold absF; rw [if_neg c]
  simp only [wp_X5_sineOf, forall_eq]
  unfold sinF at k
  refine ⟨fun c => ?_, fun c => ?_⟩
  · rw [if_pos c, ep c, t1] at k
    generalize hv : nI x.toInt.natAbs = v at a1 a2 a3 t1 t6 k ep
    have exv : x = v := ep c
    rw [exv]
    refine ⟨vp_of a1 (by omega), fun c2 => ?_, fun c2 => ?_⟩
    · obtain ⟨b1, b2⟩ := a3 (t6 c2)
      refine ⟨vp_of b2 (by omega), ⟨fun _ => ?_, fun c3 => absurd (exv ▸ c) c3⟩⟩
      rw [hr _ (by omega), hr _ (by omega)]
      unfold sinB at k
      rw [if_neg c2] at k
      exact k
    · refine ⟨fun _ => ?_, fun c3 => absurd (exv ▸ c) c3⟩
      rw [hr _ (by omega)]
      unfold sinB at k
      rw [if_pos c2] at k
      exact k
  · rw [if_neg c, e0x c, t1] at k
    rw [en c]
    refine ⟨vp_of a1 (by omega), fun c2 => ?_, fun c2 => ?_⟩
    · obtain ⟨b1, b2⟩ := a3 (t6 c2)
      refine ⟨vp_of b2 (by omega), ⟨fun c3 => absurd c3 c, fun _ => ?_⟩⟩
      rw [hr _ (by omega), hr _ (by omega)]
      unfold sinB at k
      rw [if_neg c2] at k
      exact k
    · refine ⟨fun c3 => absurd c3 c, fun _ => ?_⟩
      rw [hr _ (by omega)]
      unfold sinB at k
      rw [if_pos c2] at k
      exact k
def shTo (g : Page) (i : Nat) : Page := fun j => if i < j ∧ j ≤ 151 then g (j - 3) else g j
theorem shTo_step (g : Page) {i : Nat} (h1 : 95 ≤ i) (h2 : i ≤ 151) : upd (shTo g i) i (shTo g i (i - 3)) = shTo g (i - 1) := by
  have e : shTo g i (i - 3) = g (i - 3) := by unfold shTo; rw [if_neg (by omega)]
  rw [e]
  funext x
  simp only [updE]
  unfold shTo
  by_cases c : x = i
  · subst c; simp only [ite_true]; rw [if_pos (by omega)]
  · rw [if_neg c]
    by_cases c2 : i < x ∧ x ≤ 151
    · rw [if_pos c2, if_pos (by omega)]
    · rw [if_neg c2, if_neg (by omega)]
theorem shTo_0 (g : Page) : shTo g 151 = g := by
  funext x; unfold shTo; rw [if_neg (by omega)]
/-- the ledger's shift in the reference, then its last part -/
theorem s5_ledger {a : Nat} {g3 : Page} {M0 : Mem} {Q : Int32 → Mem → Prop}
    (k : Q 1 (va_up M0 a (fun j => if 95 ≤ j ∧ j ≤ 151 then g3 (j - 3) else if j = 92 then g3 5 else if j = 93 then g3 8 else if j = 94 then g3 7 else if j = 10 then (if 20 ≤ g3 10 then 20 else g3 10 + 1) else g3 j))) :
    ∃ (I20 : Int32 → Mem → Prop) (mu20 : Int32 → Mem → Nat), I20 151 (va_up M0 a g3) ∧ ∀ (w21 : Int32) (M22 : Mem), I20 w21 M22 →
                ((w21 < 95 →
                  vp_in 5 212 ∧
                  vp_in 92 212 ∧
                  vp_in 8 212 ∧
                  vp_in 93 212 ∧
                  vp_in 7 212 ∧
                  vp_in 94 212 ∧
                  vp_in 10 212 ∧
                  ((20 ≤ (mup (mup (mup M22 a 92 (M22 a 5)) a 93 (mup M22 a 92 (M22 a 5) a 8)) a 94 (mup (mup M22 a 92 (M22 a 5)) a 93 (mup M22 a 92 (M22 a 5) a 8) a 7) a 10) →
                    vp_in 10 212 ∧ Q 1 (mup (mup (mup (mup M22 a 92 (M22 a 5)) a 93 (mup M22 a 92 (M22 a 5) a 8)) a 94 (mup (mup M22 a 92 (M22 a 5)) a 93 (mup M22 a 92 (M22 a 5) a 8) a 7)) a 10 20)
                  ) ∧ (¬ 20 ≤ (mup (mup (mup M22 a 92 (M22 a 5)) a 93 (mup M22 a 92 (M22 a 5) a 8)) a 94 (mup (mup M22 a 92 (M22 a 5)) a 93 (mup M22 a 92 (M22 a 5) a 8) a 7) a 10) →
                    vp_in 10 212 ∧
                    vp_in 10 212 ∧ Q 1 (mup (mup (mup (mup M22 a 92 (M22 a 5)) a 93 (mup M22 a 92 (M22 a 5) a 8)) a 94 (mup (mup M22 a 92 (M22 a 5)) a 93 (mup M22 a 92 (M22 a 5) a 8) a 7)) a 10 ((mup (mup (mup M22 a 92 (M22 a 5)) a 93 (mup M22 a 92 (M22 a 5) a 8)) a 94 (mup (mup M22 a 92 (M22 a 5)) a 93 (mup M22 a 92 (M22 a 5) a 8) a 7) a 10) + 1))
                  ))
                ) ∧ (¬ w21 < 95 →
                  vp_in (w21 - 3) 212 ∧
                  vp_in w21 212 ∧
                  (I20 (w21 + (-1)) (mup M22 a (w21).toNatClampNeg (M22 a (w21 - 3).toNatClampNeg)) ∧ mu20 (w21 + (-1)) (mup M22 a (w21).toNatClampNeg (M22 a (w21 - 3).toNatClampNeg)) < mu20 w21 M22)
                )) := by
  refine ⟨fun w M' => ∃ i, 94 ≤ i ∧ i ≤ 151 ∧ w = nI i ∧ M' = va_up M0 a (shTo g3 i), fun w _ => w.toNatClampNeg, ⟨151, by decide, by decide, rfl, by rw [shTo_0]⟩, ?_⟩
  rintro w M' ⟨i, h1, h2, rfl, rfl⟩
  have v : ∀ n, n < 212 → vp_in (nI n) 212 := fun n h => vp212 h
  rw [show (95 : Int32) = nI 95 from rfl, nI_ltI (by omega) (by omega)]
  refine ⟨fun c => ?_, fun c => ?_⟩
  · have : i = 94 := by omega
    subst this
    simp only [mup_vu2, vu_self]
    have e : ∀ j, j < 95 → shTo g3 94 j = g3 j := fun j hj => by unfold shTo; rw [if_neg (by omega)]
    have r10 : upd (upd (upd (shTo g3 94) 92 (shTo g3 94 5)) 93 (upd (shTo g3 94) 92 (shTo g3 94 5) 8)) 94 (upd (upd (shTo g3 94) 92 (shTo g3 94 5)) 93 (upd (shTo g3 94) 92 (shTo g3 94 5) 8) 7) 10 = g3 10 := by
      simp (disch := omega) only [updE, if_neg]
      exact e 10 (by decide)
    have r8 : upd (shTo g3 94) 92 (shTo g3 94 5) 8 = g3 8 := by
      simp (disch := omega) only [updE, if_neg]
      exact e 8 (by decide)
    have r7 : upd (upd (shTo g3 94) 92 (shTo g3 94 5)) 93 (g3 8) 7 = g3 7 := by
      simp (disch := omega) only [updE, if_neg]
      exact e 7 (by decide)
    rw [r8] at r10 ⊢
    rw [r7] at r10 ⊢
    rw [r10, e 5 (by decide)]
    have fin : ∀ x : Int32, x = (if 20 ≤ g3 10 then 20 else g3 10 + 1) → upd (upd (upd (upd (shTo g3 94) 92 (g3 5)) 93 (g3 8)) 94 (g3 7)) 10 x = (fun j => if 95 ≤ j ∧ j ≤ 151 then g3 (j - 3) else if j = 92 then g3 5 else if j = 93 then g3 8 else if j = 94 then g3 7 else if j = 10 then (if 20 ≤ g3 10 then 20 else g3 10 + 1) else g3 j) := by
      intro x hx
      subst hx
      funext j
      simp only [updE]
      unfold shTo
      by_cases c1 : 95 ≤ j ∧ j ≤ 151
      · simp (disch := omega) only [if_pos, if_neg]
      · by_cases c2 : j = 10
        · subst c2; simp (disch := omega) only [if_pos, if_neg, ite_true]
        · by_cases c3 : j = 92
          · subst c3; simp (disch := omega) only [if_pos, if_neg, ite_true]
          · by_cases c4 : j = 93
            · subst c4; simp (disch := omega) only [if_pos, if_neg, ite_true]
            · by_cases c5 : j = 94
              · subst c5; simp (disch := omega) only [if_pos, if_neg, ite_true]
              · simp (disch := omega) only [if_neg]
    refine ⟨v 5 (by decide), v 92 (by decide), v 8 (by decide), v 93 (by decide), v 7 (by decide), v 94 (by decide), v 10 (by decide), fun c2 => ⟨v 10 (by decide), ?_⟩, fun c2 => ⟨v 10 (by decide), v 10 (by decide), ?_⟩⟩
    · rw [fin 20 (by rw [if_pos c2])]; exact k
    · rw [fin (g3 10 + 1) (by rw [if_neg c2])]; exact k
  · have sb : nI i - 3 = nI (i - 3) := by
      rw [show (3 : Int32) = nI 3 from rfl, Int32.sub_eq_iff_eq_add, nI_add, Nat.sub_add_cancel (by omega)]
    have sb1 : nI i + (-1) = nI (i - 1) := by
      have : nI (i - 1) + 1 = nI i := by rw [nI_1, Nat.sub_add_cancel (by omega)]
      rw [← this, Int32.add_assoc]
      exact Int32.add_zero _
    rw [sb, sb1, nI_clamp (by omega), nI_clamp (by omega), mup_vu2, vu_self, shTo_step g3 (by omega) h2]
    refine ⟨v _ (by omega), v _ (by omega), ⟨i - 1, by omega, by omega, rfl, rfl⟩, ?_⟩
    show (nI (i - 1)).toNatClampNeg < (nI i).toNatClampNeg
    rw [nI_clamp (by omega), nI_clamp (by omega)]
    omega

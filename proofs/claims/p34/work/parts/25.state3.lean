theorem lose50 {x : Int32} (h : 0 ≤ x.toInt ∧ x.toInt ≤ 9999) : (if 0 < x - 50 then x - 50 else 0) = (if 50 ≤ x then x - 50 else 0) := by
  have e : (x - 50).toInt = x.toInt - 50 := i32_sub (by show _ ≤ x.toInt - 50; omega) (by show x.toInt - 50 < _; omega)
  by_cases c : 50 ≤ x
  · rw [if_pos c]
    by_cases c2 : 0 < x - 50
    · rw [if_pos c2]
    · rw [if_neg c2, i32_eq, e]
      rw [i32_lt, e] at c2
      rw [i32_le] at c
      have h0 : (0 : Int32).toInt = 0 := rfl
      have h5 : (50 : Int32).toInt = 50 := rfl
      omega
  · rw [if_neg c, if_neg]
    rw [i32_lt, e]
    rw [i32_le] at c
    have h0 : (0 : Int32).toInt = 0 := rfl
    have h5 : (50 : Int32).toInt = 50 := rfl
    omega
theorem min20 {x : Int32} (h : 0 ≤ x.toInt ∧ x.toInt ≤ 20) : (if x + 1 < 20 then x + 1 else 20) = (if 20 ≤ x then 20 else x + 1) := by
  have e : (x + 1).toInt = x.toInt + 1 := i32_add (by show _ ≤ x.toInt + 1; omega) (by show x.toInt + 1 < _; omega)
  have h1 : (1 : Int32).toInt = 1 := rfl
  have h2 : (20 : Int32).toInt = 20 := rfl
  by_cases c : 20 ≤ x
  · rw [if_pos c, if_neg]
    rw [i32_le] at c
    rw [i32_lt, e]
    omega
  · rw [if_neg c]
    by_cases c2 : x + 1 < 20
    · rw [if_pos c2]
    · rw [if_neg c2, i32_eq, e]
      rw [i32_le] at c
      rw [i32_lt, e] at c2
      omega
theorem s_knock {i kk : Nat} {h : Page} {M : Mem} {Q : Mem → Prop} (s : St M i h) (hk : kk < 40) (hd : h (12 + 2 * kk) = h 5) (h7 : 0 ≤ (h 7).toInt ∧ (h 7).toInt ≤ 9999) (h10 : 0 ≤ (h 10).toInt ∧ (h 10).toInt ≤ 20) (k : ∀ M', St M' i (hitF h kk) → FrS M M' i → Q M') : wp_X2_knockDown i (nI kk) M Q := by
  obtain ⟨t, ht, e9⟩ : ∃ t : Nat, t < 20 ∧ M (6 * i) 9 = nI t := ⟨(M (6 * i) 9).toInt.toNat, by have := s.2; omega, nI_of_toInt s.2.1⟩
  simp only [wp_X2_knockDown, forall_eq]
  simp (disch := omega) only [mup_ne, mup_self, updE, if_neg, ite_true, s.height, s.clock, s.hits, e9, nI_clamp, s.place hk, nI_1, show (20 : Int32) = nI 20 from rfl, nI_leI, nI_lit3, nI_add2]
  refine ⟨vp_in_nI hk (by decide), fun c => ?_, fun c => ?_⟩
  · have ht1 : t + 1 = 20 := by omega
    refine ⟨vp_in_nI hk (by decide), vp_in_nI (n := 0) (by decide) (by decide), vp_in_nI (n := 1) (by decide) (by decide), vp_in_nI (n := 2) (by decide) (by decide), ?_⟩
    refine k _ (kd_pv s hk ht e9 hd (fun x => ?_) ?_ ?_ ?_ ?_ ?_ (lose50 h7) (min20 h10)) (fun c hc => ?_)
    · simp (disch := omega) only [mup_ne, mup_self, updE]
      rw [show (t + 1) % 20 = 0 by omega]
      rfl
    · simp (disch := omega) only [mup_ne, mup_self]
    · simp (disch := omega) only [mup_ne, mup_self]
      rw [show (t + 1) % 20 = 0 by omega]
      rfl
    · simp (disch := omega) only [mup_ne, mup_self]
    · simp (disch := omega) only [mup_ne, mup_self]
    · simp (disch := omega) only [mup_ne, mup_self]
    · simp (disch := omega) only [mup_ne]
  · have ht1 : (t + 1) % 20 = t + 1 := by omega
    refine ⟨vp_in_nI hk (by decide), vp_in_nI (by omega) (by decide), vp_in_nI (by omega) (by decide), vp_in_nI (by omega) (by decide), ?_⟩
    refine k _ (kd_pv s hk ht e9 hd (fun x => ?_) ?_ ?_ ?_ ?_ ?_ (lose50 h7) (min20 h10)) (fun c hc => ?_)
    · simp (disch := omega) only [mup_ne, mup_self, updE]
      rw [ht1]
      rfl
    · simp (disch := omega) only [mup_ne, mup_self]
    · simp (disch := omega) only [mup_ne, mup_self]
      rw [ht1]
    · simp (disch := omega) only [mup_ne, mup_self]
    · simp (disch := omega) only [mup_ne, mup_self]
    · simp (disch := omega) only [mup_ne, mup_self]
    · simp (disch := omega) only [mup_ne]
theorem s_clockOf {i j : Nat} {h : Page} {M : Mem} {Q : Int32 → Mem → Prop} (s : St M i h) (hj : j < 20) (k : Q (h (152 + 3 * j)) M) : wp_X2_clockOf i (nI j) M Q := by
  simp only [wp_X2_clockOf, forall_eq]
  rw [nI_lit3, nI_clamp (by omega), s.row (by omega)]
  exact ⟨vp_in_nI (by omega) (by decide), k⟩
theorem s_directionOf {i j : Nat} {h : Page} {M : Mem} {Q : Int32 → Mem → Prop} (s : St M i h) (hj : j < 20) (k : Q (h (153 + 3 * j)) M) : wp_X2_directionOf i (nI j) M Q := by
  simp only [wp_X2_directionOf, forall_eq]
  rw [nI_lit3, nI_1, nI_clamp (by omega), s.row (by omega), show 152 + (3 * j + 1) = 153 + 3 * j by omega]
  exact ⟨vp_in_nI (by omega) (by decide), k⟩
theorem s_moveBetween {i a b : Nat} {h : Page} {M : Mem} {Q : Int32 → Mem → Prop} (s : St M i h) (ha : a < 20) (hb : b < 20) (k : Q (aroundF (h (153 + 3 * b) - h (153 + 3 * a))) M) : wp_X2_moveBetween i (nI a) (nI b) M Q := by
  unfold wp_X2_moveBetween
  refine s_directionOf s hb (s_directionOf s ha ?_)
  simp only [forall_eq]
  exact s_around k
theorem s_noteReading {i : Nat} {h : Page} {M : Mem} {Q : Mem → Prop} (s : St M i h) (hn : 0 ≤ (h 11).toInt ∧ (h 11).toInt < 20) (k : ∀ M', St M' i (readF h) → FrS M M' i → Q M') : wp_X2_noteReading i M Q := by
  have e11 : h 11 = nI (rn h) := nI_of_toInt hn.1
  have hr : rn h < 20 := by unfold rn; omega
  simp only [wp_X2_noteReading, forall_eq]
  simp (disch := omega) only [mup_ne, s.height, s.clock, s.dir, s.reads, e11, nI_clamp, show (20 : Int32) = nI 20 from rfl, nI_leI, nI_lit3, nI_1, nI_add2]
  refine ⟨fun c => absurd c (by omega), fun _ => ⟨vp_in_nI (by omega) (by decide), vp_in_nI (by omega) (by decide), vp_in_nI (by omega) (by decide), ?_⟩⟩
  have a := (((s.row' (k := 3 * rn h) (by omega) (h 8)).row' (k := 3 * rn h + 1) (by omega) (h 5)).row' (k := 3 * rn h + 2) (by omega) (h 7)).reads' (nI (rn h + 1))
  refine k _ ?_ ((((FrS_mup (by decide)).trans (FrS_mup (by decide))).trans (FrS_mup (by decide))).trans FrS_mup0)
  unfold readF
  rw [e11, nI_1]
  rw [show 153 + 3 * rn h = 152 + (3 * rn h + 1) by omega, show 154 + 3 * rn h = 152 + (3 * rn h + 2) by omega]
  exact a
theorem s_rowOfHit {i j t : Nat} {M : Mem} {Q : Int32 → Mem → Prop} (e9 : M (6 * i) 9 = nI t) (ht : t < 20) (hj : j < 20) (k : Q (nI ((t + 20 - j) % 20)) M) : wp_X2_rowOfHit i (nI j) M Q := by
  simp only [wp_X2_rowOfHit, forall_eq]
  rw [e9, nI_ltI (by omega) (by omega)]
  have sb : ∀ a b : Nat, b ≤ a → nI a - nI b = nI (a - b) := fun a b hab => by
    rw [Int32.sub_eq_iff_eq_add, nI_add, Nat.sub_add_cancel hab]
  refine ⟨fun c => ?_, fun c => ?_⟩
  · rw [show nI t - nI j + 20 = nI t + 20 - nI j by rw [Int32.sub_eq_add_neg, Int32.add_assoc, Int32.add_comm (-nI j), ← Int32.add_assoc, ← Int32.sub_eq_add_neg], show nI t + 20 = nI (t + 20) from nI_add t 20, sb _ _ (by omega)]
    rw [show (t + 20 - j) % 20 = t + 20 - j by omega] at k
    exact k
  · rw [sb _ _ (by omega)]
    rw [show (t + 20 - j) % 20 = t - j by omega] at k
    exact k
/-- the class's removal: what is behind the last pin stays -/
def takeTo (h : Page) (k n : Nat) : Page := fun j => if 12 + 2 * k ≤ j ∧ j < 12 + 2 * n then h (j + 2) else h j
theorem takeTo_step (h : Page) {k n : Nat} (hkn : k ≤ n) : upd (upd (takeTo h k n) (12 + 2 * n) (takeTo h k n (12 + 2 * (n + 1)))) (13 + 2 * n) (takeTo h k n (13 + 2 * (n + 1))) = takeTo h k (n + 1) := by
  have e1 : takeTo h k n (12 + 2 * (n + 1)) = h (12 + 2 * n + 2) := by
    unfold takeTo
    rw [if_neg (by omega)]
    rfl
  have e2 : takeTo h k n (13 + 2 * (n + 1)) = h (13 + 2 * n + 2) := by
    unfold takeTo
    rw [if_neg (by omega), show 13 + 2 * (n + 1) = 13 + 2 * n + 2 by omega]
  rw [e1, e2]
  funext x
  simp only [updE]
  by_cases c1 : x = 13 + 2 * n
  · subst c1
    unfold takeTo
    simp (disch := omega) only [if_pos, ite_true]
  · by_cases c2 : x = 12 + 2 * n
    · subst c2
      unfold takeTo
      simp (disch := omega) only [if_pos, if_neg, ite_true]
    · rw [if_neg c1, if_neg c2]
      unfold takeTo
      by_cases c3 : 12 + 2 * k ≤ x ∧ x < 12 + 2 * n
      · rw [if_pos c3, if_pos (by omega)]
      · rw [if_neg c3, if_neg (by omega)]
theorem takeTo_self (h : Page) (k : Nat) : takeTo h k k = h := by
  funext x
  unfold takeTo
  rw [if_neg (by omega)]
theorem s_takePin {i kk : Nat} {h : Page} {M : Mem} {Q : Mem → Prop} (s : St M i h) (hn : 0 ≤ (h 9).toInt ∧ (h 9).toInt ≤ 40) (hk : kk < pn h) (k : ∀ M', St M' i (takeTo (upd h 9 (h 9 - 1)) kk (pn h - 1)) → FrS M M' i → Q M') : wp_X2_takePin i (nI kk) M Q := by
  have e9 : h 9 = nI (pn h) := nI_of_toInt hn.1
  have hp : pn h ≤ 40 := by unfold pn; omega
  have e9' : h 9 - 1 = nI (pn h - 1) := by
    rw [e9]
    have := nI_pred (pn h - 1)
    rwa [Nat.sub_add_cancel (by omega)] at this
  simp only [wp_X2_takePin, forall_eq]
  rw [s.pins]
  generalize hh1 : upd h 9 (h 9 - 1) = h1 at k
  have s1 : St (mup M (6 * i) 5 (h 9 - 1)) i h1 := by rw [← hh1]; exact s.f _ (by decide) (by decide)
  have hl : ∀ n, takeTo h1 kk n 9 = nI (pn h - 1) := fun n => by
    unfold takeTo
    rw [if_neg (by omega), ← hh1, ← e9']
    simp [upd]
  refine ⟨fun w M' => ∃ j, kk ≤ j ∧ j ≤ pn h - 1 ∧ w = nI j ∧ St M' i (takeTo h1 kk j) ∧ FrS M M' i, fun w _ => 100 - w.toNatClampNeg, ⟨kk, Nat.le_refl _, by omega, rfl, by rw [takeTo_self]; exact s1, FrS_mup0⟩, ?_⟩
  rintro w M' ⟨j, hkj, hj, rfl, s2, f2⟩
  rw [s2.pins, hl, nI_leI (by omega) (by omega)]
  refine ⟨fun c => ?_, fun c => ?_⟩
  · have : j = pn h - 1 := by omega
    subst this
    exact k _ s2 f2
  · rw [nI_1, nI_clamp (by omega), nI_clamp (by omega), s2.place (by omega)]
    have s3 := s2.place' (k := j) (by omega) (takeTo h1 kk j (12 + 2 * (j + 1)))
    have er : ∀ v, mup M' (6 * i + 2) j v (6 * i + 3) (j + 1) = takeTo h1 kk j (13 + 2 * (j + 1)) := fun v => by rw [mup_ne (by omega), s2.stand (by omega)]
    have s4 := s3.stand' (k := j) (by omega) (takeTo h1 kk j (13 + 2 * (j + 1)))
    rw [takeTo_step h1 hkj] at s4
    rw [er]
    refine ⟨vp_in_nI (by omega) (by decide), vp_in_nI (by omega) (by decide), vp_in_nI (by omega) (by decide), vp_in_nI (by omega) (by decide), ⟨j + 1, by omega, by omega, rfl, s4, (f2.trans (FrS_mup (by decide))).trans (FrS_mup (by decide))⟩, ?_⟩
    show 100 - (nI (j + 1)).toNatClampNeg < 100 - (nI j).toNatClampNeg
    rw [nI_clamp (by omega), nI_clamp (by omega)]
    omega

theorem vp_of {x : Int32} {n : Nat} (h1 : 0 ≤ x.toInt) (h2 : x.toNatClampNeg < n) : vp_in x n := by
  intro h
  rcases h with h | h
  · rw [i32_lt, i0] at h; omega
  · omega
theorem s_sineA {v : Int32} {n : Nat} (hv : v = nI n) (hn : n < 91) : 0 ≤ (v / 5).toInt ∧ (v / 5).toNatClampNeg ≤ 18 ∧ (v / 5 < 18 → (v / 5 + 1).toNatClampNeg ≤ 18 ∧ 0 ≤ (v / 5 + 1).toInt) := by
  subst hv
  obtain ⟨-, -, -, t4, t5, -, t7⟩ := sin_tab n hn
  refine ⟨by rw [t4]; omega, t5, fun h => ⟨t7 h, ?_⟩⟩
  rw [i32_add (by rw [t4, i1]; omega) (by rw [t4, i1]; omega), t4, i1]
  omega
theorem abs_nI {x : Int32} (h1 : -90 ≤ x.toInt) (h2 : x.toInt ≤ 90) : absF x = nI x.toInt.natAbs := by
  unfold absF
  split
  · rename_i c
    rw [i32_le, i0] at c
    rw [i32_eq, nI_toInt (by omega)]; omega
  · rename_i c
    rw [i32_le, i0] at c
    rw [i32_eq, i32_sub (by rw [i0]; omega) (by rw [i0]; omega), nI_toInt (by omega), i0]; omega
theorem s_sineOf {x : Int32} {M : Mem} {Q : Int32 → Mem → Prop} (h1 : -90 ≤ x.toInt) (h2 : x.toInt ≤ 90) (k : Q (sinF x) M) : wp_X4_sineOf x M Q := by
  have ea : (if 0 ≤ x then x else 0 - x) = nI x.toInt.natAbs := abs_nI h1 h2
  obtain ⟨a1, a2, a3⟩ := s_sineA (v := nI x.toInt.natAbs) rfl (by omega)
  have e18 : (19 : Int32) - 1 = 18 := rfl
  have e18' : ((18 : Int32)).toNatClampNeg = 18 := rfl
  have ex : ∀ z : Int32, (0 ≤ x → Q z M) ∧ (¬ 0 ≤ x → Q (-z) M) ↔ Q (if 0 ≤ x then z else -z) M := fun z => by
    by_cases c : 0 ≤ x
    · simp [c]
    · simp [c]
  simp only [wp_X4_sineOf, forall_eq, ea, e18, e18', ex]
  have hf : ∀ z, sinA (nI x.toInt.natAbs) = z → Q (if 0 ≤ x then z else -z) M := fun z hz => by
    have : (if 0 ≤ x then z else -z) = sinF x := by
      unfold sinF
      rw [← hz, ← ea]
      split <;> rfl
    rw [this]; exact k
  refine ⟨fun c => ?_, fun c => ?_⟩
  · obtain ⟨b1, b2⟩ := a3 c
    refine ⟨vp_of a1 (by omega), vp_of b2 (by omega), vp_of a1 (by omega), hf _ ?_⟩
    unfold sinA
    rw [if_pos c]
  · refine ⟨vp_of (by decide) (by decide), hf _ ?_⟩
    unfold sinA
    rw [if_neg c]
theorem s_beginM {k : Nat} (hk2 : k < 2) {h : Page} {M : Mem} {Q : Mem → Prop} (s : St M k h) (v : Val h) (kk : ∀ M', St M' k h → Mot M' k h (-9) → FrM M M' k → Q M') : wp_X1_begin k M Q := by
  obtain ⟨v0, -⟩ := id v
  unfold wp_X1_begin
  rw [s.set (by decide)]
  refine s_sineOf v0.1 v0.2 ?_
  simp only [forall_eq]
  have s1 : St (mup M (111 + k) 1 (900 * sinF (h 0))) k h := s.mo hk2
  refine s_unit s1 ?_
  have s2 : St (mup (mup M (111 + k) 1 (900 * sinF (h 0))) (111 + k) 2 (1000 * h 1)) k h := s1.mo hk2
  refine s_gapAhead s2 v (by rw [mup_self, updE, if_neg (by decide), mup_self, updE, if_pos rfl]) (fun p hp => ?_)
  refine kk _ ((s2.mo hk2).mo hk2) ⟨?_, ?_, ?_, ?_⟩ (((FrM_mup.trans FrM_mup).trans FrM_mup).trans FrM_mup)
  · simp only [mup_self, updE]; rfl
  · simp only [mup_self, updE]; rfl
  · simp only [mup_self, updE]; rfl
  · simp only [mup_self, updE]; exact hp
theorem s_drag {k : Nat} {h : Page} {M : Mem} {Q : Mem → Prop} (s : St M k h) (kk : ∀ M', St M' k (dragF h) → FrS M M' k → Q M') : wp_X1_dragAndDrive k M Q := by
  simp only [wp_X1_dragAndDrive, forall_eq]
  rw [s.height, s.set (by decide)]
  refine s_lose s (fun M1 s1 f1 => ?_)
  rw [s1.set (by decide)]
  exact s_gain s1 (fun M2 s2 f2 => kk M2 s2 (f1.trans f2))
theorem Gap_cong {h h' : Page} {p : Int32} (g : Gap h p) (e : ∀ j, j ≠ 6 → j ≠ 7 → j ≠ 8 → h' j = h j) : Gap h' p := by
  have e9 : pn h' = pn h := by unfold pn; rw [e 9 (by decide) (by decide) (by decide)]
  refine ⟨g.1, g.2.1, fun j hj hs => ?_⟩
  rw [e9] at hj
  rw [e _ (by omega) (by omega) (by omega)] at hs
  have : gd h' j = gd h j := by
    unfold gd sg
    rw [e 0 (by decide) (by decide) (by decide), e 5 (by decide) (by decide) (by decide), e _ (by omega) (by omega) (by omega)]
  rw [this]
  exact g.2.2 j hj hs
theorem Mot.cong {M M' : Mem} {k : Nat} {h h' : Page} {f : Int32} (m : Mot M k h f) (hm : M' (111 + k) = M (111 + k)) (e : ∀ j, j ≠ 6 → j ≠ 7 → j ≠ 8 → h' j = h j) : Mot M' k h' f := by
  obtain ⟨m1, m2, m3, m4⟩ := m
  refine ⟨?_, ?_, ?_, ?_⟩
  · rw [hm, m1, e 0 (by decide) (by decide) (by decide)]
  · rw [hm, m2, e 1 (by decide) (by decide) (by decide)]
  · rw [hm, m3]
  · rw [hm]; exact Gap_cong m4 e
theorem dragF_ne (h : Page) {j : Nat} (hj : j ≠ 7) : dragF h j = h j := by
  unfold dragF gainF loseF
  simp only [updE]
  rw [if_neg hj, if_neg hj]
theorem way_sign {h : Page} (v : Val h) : (0 < wayF h → sg h = 1) ∧ (wayF h < 0 → sg h = -1) := by
  obtain ⟨v0, v1, -, -, -, -, v6, -⟩ := id v
  have hu : 0 < 1000 * (h 1).toInt := by omega
  unfold sg wayF
  refine ⟨fun c => ?_, fun c => ?_⟩
  · rw [if_pos]
    apply Classical.byContradiction
    intro c2
    have : ((h 6).toInt + 900 * (sinF (h 0)).toInt) / (1000 * (h 1).toInt) < 1 := by
      rw [Int.ediv_lt_iff_lt_mul hu]; omega
    omega
  · rw [if_neg]
    intro c2
    have : 0 ≤ ((h 6).toInt + 900 * (sinF (h 0)).toInt) / (1000 * (h 1).toInt) := Int.ediv_nonneg (by omega) (by omega)
    omega
theorem Val_move {h : Page} (v : Val h) (f : Int32) : Val (moveF h f).1 := by
  obtain ⟨v0, v1, -, -, -, -, v6, -⟩ := id v
  have := rest_val v0 v1 v6
  exact Val_stepN _ (s := (upd h 6 (restF h), 0, f)) (Val_6 v ⟨this.2.1, this.2.2⟩)
theorem Val_turn {h : Page} (v : Val h) (f : Int32) : Val (turnF h f).1 := by
  unfold turnF
  split
  · exact Val_8 (Val_drag (Val_move v f)) _
  · exact Val_8 v _
theorem s_turn {k : Nat} (hk2 : k < 2) {h : Page} {M : Mem} {Q : Int32 → Mem → Prop} {f : Int32} (s : St M k h) (v : Val h) (m : Mot M k h f) (kk : ∀ M', St M' k (turnF h f).1 → Mot M' k (turnF h f).1 (turnF h f).2.2 → FrM M M' k → Q (turnF h f).2.1 M') : wp_X1_turn k M Q := by
  obtain ⟨v0, v1, -, -, -, -, v6, v7, -⟩ := id v
  simp only [wp_X1_turn, forall_eq]
  rw [s.height, s.clock]
  refine ⟨fun c => ?_, fun c => ?_⟩
  · have e : turnF h f = (upd h 8 (h 8 + 1), 0, f) := by
      unfold turnF
      rw [if_neg]
      rw [i32_le] at c
      rw [i32_lt]
      omega
    rw [e] at kk
    refine kk _ (s.f (k := 4) _ (by decide) (by decide)) (m.cong (mup_ne (by omega)) (fun j h6 h7 h8 => ?_)) FrS_mup0.M
    show upd h 8 (h 8 + 1) j = h j
    rw [updE, if_neg h8]
  · have e : turnF h f = (upd (dragF (moveF h f).1) 8 (dragF (moveF h f).1 8 + 1), (moveF h f).2.1, (moveF h f).2.2) := by
      unfold turnF
      rw [if_pos]
      rw [i32_le] at c
      rw [i32_lt]
      omega
    rw [e] at kk
    dsimp only at kk
    obtain ⟨-, -, w1, w2, -⟩ := way_val v0 v1 v6
    obtain ⟨sg1, sg2⟩ := way_sign v
    refine s_wayOfTurn s m.1 m.2.1 v0 v1 v6 (fun M1 s1 f1 => ?_)
    have hr := rest_val v0 v1 v6
    have vr : Val (upd h 6 (restF h)) := Val_6 v ⟨hr.2.1, hr.2.2⟩
    have m1 : Mot M1 k (upd h 6 (restF h)) f := m.cong (f1.mo hk2) (fun j h6 _ _ => by rw [updE, if_neg h6])
    have es : sg (upd h 6 (restF h)) = sg h := by
      have e0 : upd h 6 (restF h) 0 = h 0 := by rw [updE, if_neg (by decide)]
      unfold sg; rw [e0]
    refine s_go hk2 s1 vr m1 ⟨w1, w2⟩ (fun c => by rw [es]; exact sg1 c) (fun c => by rw [es]; exact sg2 c) (fun M2 s2 m2 f2 => ?_)
    refine s_drag s2 (fun M3 s3 f3 => ?_)
    rw [s3.clock]
    refine kk _ (s3.f (k := 4) _ (by decide) (by decide)) (m2.cong ((mup_ne (by omega)).trans (f3.mo hk2)) (fun j h6 h7 h8 => ?_)) (((f1.M.trans f2).trans f3.M).trans FrS_mup0.M)
    rw [updE, if_neg h8]
    exact dragF_ne _ h7
def turnN : Nat → Page × Int32 × Int32 → Page × Int32 × Int32
  | 0, s => s
  | n + 1, s => let t := turnN n s
    let r := turnF t.1 t.2.2
    (r.1, t.2.1 + r.2.1, r.2.2)
theorem Val_turnN : ∀ (n : Nat) {s : Page × Int32 × Int32}, Val s.1 → Val (turnN n s).1
  | 0, _, v => v
  | n + 1, _, v => Val_turn (Val_turnN n v) _
theorem s_turns {k : Nat} (hk2 : k < 2) {h : Page} {M : Mem} {Q : Int32 → Mem → Prop} {f : Int32} {n : Nat} (hn : n < 100000) (s : St M k h) (v : Val h) (m : Mot M k h f) (kk : ∀ M', St M' k (turnN n (h, 0, f)).1 → Mot M' k (turnN n (h, 0, f)).1 (turnN n (h, 0, f)).2.2 → FrM M M' k → Q (turnN n (h, 0, f)).2.1 M') : wp_X1_turns k (nI n) M Q := by
  refine ⟨fun w a M' => ∃ j, j ≤ n ∧ w = nI j ∧ a = (turnN j (h, 0, f)).2.1 ∧ St M' k (turnN j (h, 0, f)).1 ∧ Mot M' k (turnN j (h, 0, f)).1 (turnN j (h, 0, f)).2.2 ∧ FrM M M' k, fun w _ _ => 100000 - w.toNatClampNeg, ⟨0, Nat.zero_le _, rfl, rfl, s, m, FrM.rfl'⟩, ?_⟩
  rintro w a M' ⟨j, hj, rfl, rfl, s1, m1, f1⟩
  simp only [forall_eq]
  rw [nI_leI (by omega) (by omega)]
  refine ⟨fun c => ?_, fun c => ?_⟩
  · have : j = n := by omega
    subst this
    exact kk _ s1 m1 f1
  · refine s_turn hk2 s1 (Val_turnN j v) m1 (fun M2 s2 m2 f2 => ?_)
    refine ⟨⟨j + 1, by omega, nI_1 j, rfl, s2, m2, f1.trans f2⟩, ?_⟩
    rw [nI_1, nI_clamp (by omega), nI_clamp (by omega)]
    omega

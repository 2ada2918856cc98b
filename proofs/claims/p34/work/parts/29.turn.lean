theorem go_body {k : Nat} (hk2 : k < 2) {b w5 f : Int32} {g : Page} {M : Mem} (v : Val g) (s : St M k g) (e4 : M (111 + k) 4 = f) {K : Int32 → Mem → Prop}
    (hK : ∀ M1, St M1 k (stepF b g).1 → M1 (111 + k) 4 = (if f = -9 then (stepF b g).2.2 else f) → FrM M M1 k → M1 (111 + k) 1 = M (111 + k) 1 → M1 (111 + k) 2 = M (111 + k) 2 → M1 (111 + k) 3 = M (111 + k) 3 → K (w5 + (stepF b g).2.1) M1) :
    wp_X4_around (M (6 * k) 1 + b) M (fun r14 M13 =>
      wp_X2_pinAt k (mup M13 (6 * k) 1 r14 (6 * k) 1) (mup M13 (6 * k) 1 r14) (fun r17 M16 =>
        (r17 < 0 → K w5 M16) ∧ (¬ r17 < 0 → vp_in r17 40 ∧
          (¬ (M16 (6 * k + 3) (r17).toNatClampNeg) = 1 → K w5 M16) ∧ ((M16 (6 * k + 3) (r17).toNatClampNeg) = 1 →
            ((M16 (6 * k) 3) < (M16 (6 * k + 1) 3) → K w5 M16) ∧ (¬ (M16 (6 * k) 3) < (M16 (6 * k + 1) 3) →
              wp_X2_knockDown k r17 M16 (fun M24 => (¬ (M24 (111 + k) 4) = (-9) → K (w5 + 1) (mup M24 (111 + k) 4 (M24 (111 + k) 4))) ∧ ((M24 (111 + k) 4) = (-9) → K (w5 + 1) (mup M24 (111 + k) 4 r17)))))))) := by
  obtain ⟨-, -, -, -, -, v5, -, v7, v9, v10, -, vp, -⟩ := id v
  have hp : pn g ≤ 40 := by unfold pn; omega
  refine s_around ?_
  rw [s.dir]
  have s1 : St (mup M (6 * k) 1 (aroundF (g 5 + b))) k (upd g 5 (aroundF (g 5 + b))) := s.f _ (by decide) (by decide)
  generalize hg1 : upd g 5 (aroundF (g 5 + b)) = g1 at s1
  have f1 : FrS M (mup M (6 * k) 1 (aroundF (g 5 + b))) k := FrS_mup0
  generalize mup M (6 * k) 1 (aroundF (g 5 + b)) = M1 at s1 f1
  have e5 : g1 5 = aroundF (g 5 + b) := by rw [← hg1, updE, if_pos rfl]
  have en : ∀ j, j ≠ 5 → g1 j = g j := fun j hj => by rw [← hg1, updE, if_neg hj]
  have m1 : M1 (111 + k) = M (111 + k) := f1.mo hk2
  rw [s1.dir, e5]
  refine s_pinAt s1 (by rw [en 9 (by decide)]; exact v9) ?_
  have n9 : (-9 : Int32).toInt = -9 := rfl
  have nofall : stepF b g = (g1, 0, -9) → K w5 M1 := fun e => by
    have := hK M1 (by rw [e]; exact s1) (by rw [m1, e4, e]; split <;> simp_all) f1.M (by rw [m1]) (by rw [m1]) (by rw [m1])
    rw [e] at this
    simpa using this
  rcases step_full v b with ⟨a1, a2⟩ | ⟨kk, hkk, a1, a2, a3⟩
  · rw [hg1] at a1 a2
    rw [a1]
    refine ⟨fun _ => nofall a2, fun c => absurd (show (-9 : Int32) < 0 by decide) c⟩
  · rw [hg1] at a1 a3
    rw [a1]
    have hk40 : kk < 40 := by omega
    refine ⟨fun c => absurd c (nI_pos (by omega)), fun _ => ⟨vp_in_nI hk40 (by decide), ?_⟩⟩
    rw [nI_clamp (by omega), s1.stand hk40, en _ (by omega), s1.height, s1.set (by decide), en 7 (by decide), en 3 (by decide)]
    rcases a3 with ⟨b1, b2⟩ | ⟨b1, b2, b3⟩ | ⟨b1, b2, b3⟩
    · exact ⟨fun _ => nofall b2, fun c => absurd c b1⟩
    · exact ⟨fun _ => nofall b3, fun _ => ⟨fun _ => nofall b3, fun c => absurd b2 c⟩⟩
    · refine ⟨fun c => absurd b1 c, fun _ => ⟨fun c => absurd c b2, fun _ => ?_⟩⟩
      refine s_knock s1 hk40 (by rw [en _ (by omega), a2, e5]) (by rw [en 7 (by decide)]; exact v7) (by rw [en 10 (by decide)]; exact v10) (fun M2 s2 f2 => ?_)
      have m2 : M2 (111 + k) = M (111 + k) := (f2.mo hk2).trans m1
      rw [m2, e4]
      refine ⟨fun c => ?_, fun c => ?_⟩
      · have := hK (mup M2 (111 + k) 4 f) (by rw [b3]; exact s2.mo hk2) (by rw [mup_self, updE, if_pos rfl, if_neg c]) ((f1.M.trans f2.M).trans FrM_mup) (by rw [mup_self, updE, if_neg (by decide), m2]) (by rw [mup_self, updE, if_neg (by decide), m2]) (by rw [mup_self, updE, if_neg (by decide), m2])
        rw [b3] at this
        exact this
      · have := hK (mup M2 (111 + k) 4 (nI kk)) (by rw [b3]; exact s2.mo hk2) (by rw [mup_self, updE, if_pos rfl, if_pos c, b3]) ((f1.M.trans f2.M).trans FrM_mup) (by rw [mup_self, updE, if_neg (by decide), m2]) (by rw [mup_self, updE, if_neg (by decide), m2]) (by rw [mup_self, updE, if_neg (by decide), m2])
        rw [b3] at this
        exact this
theorem step_low {g : Page} (v : Val g) (b : Int32) : ∀ j, j < 5 → (stepF b g).1 j = g j := by
  intro j hj
  rcases step_cases v b with e | ⟨kk, hkk, -, -, -, e⟩
  · rw [e]; exact (updE _ _ _ _).trans (if_neg (by omega))
  · rw [e]
    show hitF _ _ _ = _
    unfold hitF
    simp (disch := omega) only [updE, if_neg]
theorem stepN_low {b : Int32} : ∀ (n : Nat) {s : Page × Int32 × Int32}, Val s.1 → ∀ j, j < 5 → (stepN b n s).1 j = s.1 j
  | 0, _, _, _, _ => rfl
  | n + 1, _, v, j, hj => (step_low (Val_stepN n v) b j hj).trans (stepN_low n v j hj)
theorem absW {w : Int} (h : -15 ≤ w ∧ w ≤ 15) : (if 0 ≤ Int32.ofInt w then Int32.ofInt w else 0 - Int32.ofInt w) = nI w.natAbs ∧ (0 ≤ Int32.ofInt w ↔ 0 ≤ w) := by
  have e : (Int32.ofInt w).toInt = w := i32_ofInt (by omega) (by omega)
  have e2 : 0 ≤ Int32.ofInt w ↔ 0 ≤ w := by rw [i32_le, e, i0]
  refine ⟨?_, e2⟩
  by_cases c : 0 ≤ w
  · rw [if_pos (e2.mpr c), i32_eq, e, nI_toInt (by omega)]
    omega
  · rw [if_neg (fun z => c (e2.mp z)), i32_eq, i32_sub (by rw [e, i0]; omega) (by rw [e, i0]; omega), e, i0, nI_toInt (by omega)]
    omega
theorem s_go {k : Nat} (hk2 : k < 2) {h : Page} {M : Mem} {Q : Int32 → Mem → Prop} {f : Int32} {w : Int} (s : St M k h) (v : Val h) (m : Mot M k h f) (hw : -15 ≤ w ∧ w ≤ 15) (hs1 : 0 < w → sg h = 1) (hs2 : w < 0 → sg h = -1)
    (kk : ∀ M', St M' k (stepN (if 0 ≤ w then 1 else -1) w.natAbs (h, 0, f)).1 → Mot M' k (stepN (if 0 ≤ w then 1 else -1) w.natAbs (h, 0, f)).1 (stepN (if 0 ≤ w then 1 else -1) w.natAbs (h, 0, f)).2.2 → FrM M M' k → Q (stepN (if 0 ≤ w then 1 else -1) w.natAbs (h, 0, f)).2.1 M') : wp_X1_go k (Int32.ofInt w) M Q := by
  obtain ⟨ea, ep⟩ := absW hw
  obtain ⟨q1, q2, q4, hg⟩ := m
  obtain ⟨v0, v1, -, -, -, v5, -⟩ := id v
  simp only [ep] at ea
  simp only [wp_X1_go, forall_eq, ep, ea]
  have ew : (Int32.ofInt w).toInt = w := i32_ofInt (by omega) (by omega)
  have en : (nI w.natAbs).toInt = w.natAbs := nI_toInt (by omega)
  generalize hb : (if 0 ≤ w then (1 : Int32) else -1) = b at kk
  generalize hn : w.natAbs = n at kk en
  have low : ∀ j, j < 5 → ∀ a, (stepN b a (h, 0, f)).1 j = h j := fun j hj a => stepN_low a (s := (h, 0, f)) v j hj
  refine ⟨fun c => ?_, fun c => ?_⟩
  · rw [i32_le, en] at c
    refine ⟨fun w4 w5 M' => ∃ j, j ≤ n ∧ w4 = nI j ∧ w5 = (stepN b j (h, 0, f)).2.1 ∧ St M' k (stepN b j (h, 0, f)).1 ∧ M' (111 + k) 4 = (stepN b j (h, 0, f)).2.2 ∧ M' (111 + k) 1 = M (111 + k) 1 ∧ M' (111 + k) 2 = M (111 + k) 2 ∧ FrM M M' k, fun w4 _ _ => 100 - w4.toNatClampNeg, ⟨0, Nat.zero_le _, rfl, rfl, s, q4, rfl, rfl, FrM.rfl'⟩, ?_⟩
    rintro w4 w5 M' ⟨j, hj, rfl, rfl, s1, e4, e1, e2, f1⟩
    have vj : Val (stepN b j (h, 0, f)).1 := Val_stepN j v
    refine ⟨fun c1 => ?_, fun c1 => ?_⟩
    · rw [nI_leI (by omega) (by omega)] at c1
      have : j = n := by omega
      subst this
      refine s_gapAhead s1 vj (by rw [e1, q1, low 0 (by decide)]) (fun p hp => ?_)
      refine kk _ (s1.mo hk2) ⟨?_, ?_, ?_, ?_⟩ (f1.trans FrM_mup)
      · rw [mup_self, updE, if_neg (by decide), e1, q1, low 0 (by decide)]
      · rw [mup_self, updE, if_neg (by decide), e2, q2, low 1 (by decide)]
      · rw [mup_self, updE, if_neg (by decide), e4]
      · rw [mup_self, updE, if_pos rfl]
        exact hp
    · rw [nI_leI (by omega) (by omega)] at c1
      have fin : ∀ M1, St M1 k (stepF b (stepN b j (h, 0, f)).1).1 → M1 (111 + k) 4 = (if (stepN b j (h, 0, f)).2.2 = -9 then (stepF b (stepN b j (h, 0, f)).1).2.2 else (stepN b j (h, 0, f)).2.2) → FrM M' M1 k → M1 (111 + k) 1 = M' (111 + k) 1 → M1 (111 + k) 2 = M' (111 + k) 2 → M1 (111 + k) 3 = M' (111 + k) 3 → ((∃ a, a ≤ n ∧ nI j + 1 = nI a ∧ (stepN b j (h, 0, f)).2.1 + (stepF b (stepN b j (h, 0, f)).1).2.1 = (stepN b a (h, 0, f)).2.1 ∧ St M1 k (stepN b a (h, 0, f)).1 ∧ M1 (111 + k) 4 = (stepN b a (h, 0, f)).2.2 ∧ M1 (111 + k) 1 = M (111 + k) 1 ∧ M1 (111 + k) 2 = M (111 + k) 2 ∧ FrM M M1 k) ∧ 100 - (nI j + 1).toNatClampNeg < 100 - (nI j).toNatClampNeg) := by
        intro M1 a1 a2 a3 a4 a5 a6
        refine ⟨⟨j + 1, by omega, nI_1 j, rfl, a1, a2, a4.trans e1, a5.trans e2, f1.trans a3⟩, ?_⟩
        rw [nI_1, nI_clamp (by omega), nI_clamp (by omega)]
        omega
      refine ⟨fun c2 => ?_, fun c2 => ?_⟩
      · rw [if_pos c2] at hb
        subst hb
        exact go_body (b := 1) hk2 vj s1 e4 (K := fun a M1 => (∃ z, z ≤ n ∧ nI j + 1 = nI z ∧ a = (stepN 1 z (h, 0, f)).2.1 ∧ St M1 k (stepN 1 z (h, 0, f)).1 ∧ M1 (111 + k) 4 = (stepN 1 z (h, 0, f)).2.2 ∧ M1 (111 + k) 1 = M (111 + k) 1 ∧ M1 (111 + k) 2 = M (111 + k) 2 ∧ FrM M M1 k) ∧ 100 - (nI j + 1).toNatClampNeg < 100 - (nI j).toNatClampNeg) fin
      · rw [if_neg c2] at hb
        subst hb
        exact go_body (b := -1) hk2 vj s1 e4 (K := fun a M1 => (∃ z, z ≤ n ∧ nI j + 1 = nI z ∧ a = (stepN (-1) z (h, 0, f)).2.1 ∧ St M1 k (stepN (-1) z (h, 0, f)).1 ∧ M1 (111 + k) 4 = (stepN (-1) z (h, 0, f)).2.2 ∧ M1 (111 + k) 1 = M (111 + k) 1 ∧ M1 (111 + k) 2 = M (111 + k) 2 ∧ FrM M M1 k) ∧ 100 - (nI j + 1).toNatClampNeg < 100 - (nI j).toNatClampNeg) fin
  · rw [i32_le, en] at c
    have hbs : n = 0 ∨ b.toInt = sg h := by
      by_cases z : w = 0
      · left; omega
      · right
        rw [← hb]
        by_cases z2 : 0 ≤ w
        · rw [if_pos z2, hs1 (by omega)]; rfl
        · rw [if_neg z2, hs2 (by omega)]; rfl
    have on0 : onP h 0 = h := by
      funext x
      unfold onP
      rw [updE]
      split
      · rename_i hx
        subst hx
        rw [i32_eq, i32_ofInt (by omega) (by omega)]
        omega
      · rfl
    have es : stepN b n (h, 0, f) = (onP h n, 0, f) := by
      rcases hbs with z | z
      · subst z; rw [on0]; rfl
      · exact stepN_skip v hg z n (by omega)
    have gp := hg.2.1
    have eg : (M (111 + k) 3 - nI n).toInt = (M (111 + k) 3).toInt - n := by rw [i32_sub (by rw [en]; omega) (by rw [en]; omega), en]
    rw [mup_ne (by omega), s.dir]
    refine s_around ?_
    have ed : aroundF (h 5 + Int32.ofInt w) = onP h n 5 := by
      rw [i32_eq, aroundF_toInt, i32_add (by rw [ew]; omega) (by rw [ew]; omega), ew, onP_5]
      have : w = sg h * n := by
        by_cases z : w = 0
        · subst z; simp at hn; subst hn; simp
        · by_cases z2 : 0 < w
          · rw [hs1 z2]; omega
          · rw [hs2 (by omega)]; omega
      rw [← this]
    rw [ed]
    rw [es] at kk
    dsimp only at kk
    have sm : St (mup M (111 + k) 3 (M (111 + k) 3 - nI n)) k h := s.mo hk2
    have s2 := sm.f (k := 1) (onP h n 5) (by decide) (by decide)
    have eo : upd h (1 + 4) (onP h n 5) = onP h n := by
      funext x
      unfold onP
      simp only [updE]
      split <;> simp_all
    rw [eo] at s2
    refine kk _ s2 ⟨?_, ?_, ?_, ?_⟩ (FrM_mup.trans FrS_mup0.M)
    · rw [mup_ne (by omega), mup_self, updE, if_neg (by decide), q1]; rw [onP_ne h n (by decide)]
    · rw [mup_ne (by omega), mup_self, updE, if_neg (by decide), q2, onP_ne h n (by decide)]
    · rw [mup_ne (by omega), mup_self, updE, if_neg (by decide), q4]
    · rw [mup_ne (by omega), mup_self, updE, if_pos rfl]
      exact Gap_on v hg (by omega) eg

/-! WHAT A TURN DOES, ALL OF IT -/
theorem sum_one {g g' : Page} {kk : Nat} (h0 : g' (13 + 2 * kk) = 0) (h1 : g (13 + 2 * kk) = 1) (hs : ∀ j, j ≠ kk → g' (13 + 2 * j) = g (13 + 2 * j)) : ∀ n, kk < n → sumGo g' n = sumGo g n - 1
  | 0, h => absurd h (by omega)
  | n + 1, h => by
    show sumGo g' n + g' (13 + 2 * n) = sumGo g n + g (13 + 2 * n) - 1
    by_cases c : n = kk
    · subst c
      rw [h0, h1, sum_cong n (fun j hj => hs j (by omega)), Int32.add_zero, Int32.add_sub_cancel]
    · rw [sum_one h0 h1 hs n (by omega), hs n c, Int32.sub_eq_add_neg, Int32.sub_eq_add_neg, Int32.add_assoc, Int32.add_comm (-1), ← Int32.add_assoc]
/-- places of a page that no turn changes -/
def Still (j : Nat) : Prop := j < 5 ∨ j = 9 ∨ j = 11 ∨ 152 ≤ j ∨ (12 ≤ j ∧ j < 92 ∧ j % 2 = 0)
theorem hit_still {g : Page} {k j : Nat} (hk : k < 40) (hj : Still j ∨ j = 5 ∨ j = 6 ∨ j = 8) : hitF g k j = g j := by
  unfold Still at hj
  rw [hitF_lo _ _ (by omega), if_neg (by omega), updE, if_neg (by omega), updE, if_neg (by omega)]
def hgt (h c : Int) : Int := if 50 * c ≤ h then h - 50 * c else 0
def StepAll (b : Int) (g : Page) (n : Nat) (S : Page × Int32 × Int32) (c : Nat) : Prop :=
  c ≤ n ∧ S.2.1 = nI c ∧ (S.1 5).toInt = ((g 5).toInt + b * n) % 10800 ∧ (∀ j, Still j ∨ j = 6 ∨ j = 8 → S.1 j = g j) ∧ (S.1 7).toInt = hgt (g 7).toInt c ∧
  (∀ k, k < pn g → S.1 (13 + 2 * k) = g (13 + 2 * k) ∨ (g (13 + 2 * k) = 1 ∧ S.1 (13 + 2 * k) = 0 ∧ ∃ i : Nat, 1 ≤ i ∧ i ≤ n ∧ (g (12 + 2 * k)).toInt = ((g 5).toInt + b * i) % 10800)) ∧
  standF S.1 = standF g - nI c ∧ (0 < c → (g 3).toInt ≤ (g 7).toInt ∧ S.1 93 = g 8 ∧ S.1 94 = S.1 7 ∧ 1 ≤ (S.1 10).toInt) ∧ (c = 0 → ∀ k, k < pn g → S.1 (13 + 2 * k) = g (13 + 2 * k))
theorem step_all {b : Int32} (hb : b.toInt = 1 ∨ b.toInt = -1) {g : Page} (v : Val g) (f : Int32) : ∀ n, ∃ c, StepAll b.toInt g n (stepN b n (g, 0, f)) c
  | 0 => by
    obtain ⟨-, -, -, -, -, v5, -, v7, -⟩ := id v
    refine ⟨0, Nat.le_refl _, rfl, ?_, fun j hj => rfl, ?_, fun k hk => Or.inl rfl, ?_, fun h => absurd h (by omega), fun _ k hk => rfl⟩
    · show (g 5).toInt = _
      rw [Int.emod_eq_of_lt] <;> omega
    · show (g 7).toInt = _
      unfold hgt
      rw [if_pos (by omega)]; omega
    · show standF g = standF g - 0
      rw [Int32.sub_zero]
  | n + 1 => by
    obtain ⟨c, h1, h2, h3, h4, h5, h6, h7, h8, h9⟩ := step_all hb v f n
    have vn := Val_stepN (b := b) n (s := (g, 0, f)) v
    have E1 : (stepN b (n + 1) (g, 0, f)).1 = (stepF b (stepN b n (g, 0, f)).1).1 := rfl
    have E2 : (stepN b (n + 1) (g, 0, f)).2.1 = (stepN b n (g, 0, f)).2.1 + (stepF b (stepN b n (g, 0, f)).1).2.1 := rfl
    generalize stepN b (n + 1) (g, 0, f) = T at E1 E2
    generalize stepN b n (g, 0, f) = S at h2 h3 h4 h5 h6 h7 h8 h9 vn E1 E2
    obtain ⟨-, -, -, -, -, w5, -, w7, -, w10, -⟩ := id vn
    have epn : pn S.1 = pn g := by unfold pn; rw [h4 9 (Or.inl (by unfold Still; omega))]
    have en : (((n + 1 : Nat)) : Int) = (n : Int) + 1 := by omega
    -- the new direction
    have dir : (aroundF (S.1 5 + b)).toInt = ((g 5).toInt + b.toInt * (n + 1 : Nat)) % 10800 := by
      rw [aroundF_toInt, i32_add (by omega) (by omega), h3, en, Int.mul_add, Int.mul_one]
      omega
    rcases step_cases vn b with e | ⟨kk, hkk, ep, ef, er, e⟩
    · rw [e] at E1 E2
      have q : ∀ j, j ≠ 5 → T.1 j = S.1 j := fun j hj => by
        rw [E1]; show upd S.1 5 _ j = _; rw [updE, if_neg hj]
      have est : standF T.1 = standF S.1 := by
        unfold standF
        rw [show pn T.1 = pn S.1 from by unfold pn; rw [q 9 (by decide)], sum_cong _ (fun k _ => q _ (by omega))]
      refine ⟨c, by omega, ?_, ?_, fun j hj => ?_, ?_, fun k hk => ?_, ?_, fun hc => ?_, fun hc k hk => ?_⟩
      · rw [E2, h2]; exact Int32.add_zero _
      · rw [E1]
        show (upd S.1 5 _ 5).toInt = _
        rw [updE, if_pos rfl]; exact dir
      · rw [q j (by unfold Still at hj; omega)]; exact h4 j hj
      · rw [q 7 (by decide)]; exact h5
      · rw [q _ (by omega)]
        rcases h6 k hk with a | ⟨a1, a2, i, a3, a4, a5⟩
        · exact Or.inl a
        · exact Or.inr ⟨a1, a2, i, a3, by omega, a5⟩
      · rw [est]; exact h7
      · obtain ⟨a1, a2, a3, a4⟩ := h8 hc
        exact ⟨a1, by rw [q 93 (by decide)]; exact a2, by rw [q 94 (by decide), q 7 (by decide)]; exact a3, by rw [q 10 (by decide)]; exact a4⟩
      · rw [q _ (by omega)]; exact h9 hc k hk
    · rw [e] at E1 E2
      rw [i32_lt] at er
      have s3 : (S.1 3) = g 3 := h4 3 (Or.inl (by unfold Still; omega))
      have hp := pn_le vn
      -- the page behind the hit
      generalize hG : upd S.1 5 (aroundF (S.1 5 + b)) = G at E1 E2
      have g5 : G 5 = aroundF (S.1 5 + b) := by rw [← hG, updE, if_pos rfl]
      have gq : ∀ j, j ≠ 5 → G j = S.1 j := fun j hj => by rw [← hG, updE, if_neg hj]
      have t7 : T.1 7 = if 50 ≤ G 7 then G 7 - 50 else 0 := by
        rw [E1]; show hitF G kk 7 = _
        rw [hitF_lo _ _ (by omega), if_neg (by decide), updE, if_pos rfl]
      have tf : ∀ k, k < 40 → T.1 (13 + 2 * k) = if k = kk then 0 else S.1 (13 + 2 * k) := fun k hk => by
        rw [E1]; show hitF G kk (13 + 2 * k) = _
        rw [hitF_lo _ _ (by omega), if_neg (by omega), updE, if_neg (by omega), updE]
        by_cases c2 : k = kk
        · rw [if_pos (by omega), if_pos c2]
        · rw [if_neg (by omega), if_neg c2, gq _ (by omega)]
      have ts : ∀ j, Still j ∨ j = 6 ∨ j = 8 → T.1 j = S.1 j := fun j hj => by
        rw [E1]; show hitF G kk j = _
        rw [hit_still (by omega) (by rcases hj with a | a | a <;> simp [a]), gq j (by unfold Still at hj; omega)]
      have g7 : G 7 = S.1 7 := gq 7 (by decide)
      have d50 : (50 : Int32).toInt = 50 := rfl
      refine ⟨c + 1, by omega, ?_, ?_, fun j hj => ?_, ?_, fun k hk => ?_, ?_, fun hc => ?_, fun hc => absurd hc (by omega)⟩
      · rw [E2, h2]; exact nI_1 c
      · rw [E1]
        show (hitF G kk 5).toInt = _
        rw [hit_still (by omega) (by omega), g5]; exact dir
      · rw [ts j hj]; exact h4 j hj
      · rw [t7, g7]
        unfold hgt at h5 ⊢
        by_cases c2 : 50 ≤ (S.1 7).toInt
        · rw [if_pos (by rw [i32_le, d50]; exact c2), i32_sub (by rw [d50]; omega) (by rw [d50]; omega), d50]
          split at h5
          · rw [if_pos (by omega)]; omega
          · omega
        · rw [if_neg (by rw [i32_le, d50]; exact c2), i0]
          split at h5
          · rw [if_neg (by omega)]
          · rw [if_neg (by omega)]
      · rw [tf k (by omega)]
        by_cases c2 : k = kk
        · subst c2
          rw [if_pos rfl]
          right
          have gk : g (13 + 2 * k) = 1 := by
            rcases h6 k hk with a | ⟨a1, -⟩
            · rw [← a]; exact ef
            · exact a1
          refine ⟨gk, rfl, n + 1, by omega, Nat.le_refl _, ?_⟩
          have : g (12 + 2 * k) = S.1 (12 + 2 * k) := (h4 _ (Or.inl (by unfold Still; omega))).symm
          rw [this, ep]; exact dir
        · rw [if_neg c2]
          rcases h6 k hk with a | ⟨a1, a2, i, a3, a4, a5⟩
          · exact Or.inl a
          · exact Or.inr ⟨a1, a2, i, a3, by omega, a5⟩
      · have est : standF T.1 = standF S.1 - 1 := by
          unfold standF
          rw [show pn T.1 = pn S.1 from by unfold pn; rw [ts 9 (Or.inl (by unfold Still; omega))]]
          have cut : sumGo T.1 (pn S.1) = sumGo (fun j => if j < 92 then T.1 j else S.1 j) (pn S.1) := sum_cong _ (fun k hk => by
            show _ = if 13 + 2 * k < 92 then _ else _
            rw [if_pos (by omega)])
          rw [cut]
          refine sum_one (kk := kk) ?_ ef (fun j hj => ?_) _ hkk
          · show (if 13 + 2 * kk < 92 then _ else _) = _
            rw [if_pos (by omega), tf kk (by omega), if_pos rfl]
          · show (if 13 + 2 * j < 92 then _ else _) = _
            by_cases c3 : 13 + 2 * j < 92
            · rw [if_pos c3, tf j (by omega), if_neg hj]
            · rw [if_neg c3]
        rw [est, h7, Int32.sub_sub]
        congr 1
        exact nI_1 c
      · refine ⟨?_, ?_, ?_, ?_⟩
        · by_cases c2 : 0 < c
          · exact (h8 c2).1
          · have c0 : c = 0 := by omega
            subst c0
            unfold hgt at h5
            rw [s3] at er
            obtain ⟨-, -, -, -, -, -, -, v7, -⟩ := id v
            rw [if_pos (by omega)] at h5
            omega
        · rw [E1]; show hitF G kk 93 = _
          have : hitF G kk 93 = G 8 := by
            unfold hitF
            simp (disch := omega) only [updE, if_neg, ite_true]
          rw [this, gq 8 (by decide)]; exact h4 8 (by omega)
        · have : hitF G kk 94 = hitF G kk 7 := by
            rw [hitF_lo G kk (i := 7) (by omega), if_neg (by decide)]
            unfold hitF
            simp (disch := omega) only [updE, if_neg, ite_true]
          rw [E1]; exact this
        · rw [E1]; show 1 ≤ (hitF G kk 10).toInt
          rw [hitF_lo _ _ (by omega), if_pos rfl, gq 10 (by decide)]
          split
          · decide
          · rename_i c2
            rw [i32_le, d20'] at c2
            rw [i32_add (by rw [i1]; omega) (by rw [i1]; omega), i1]
            omega

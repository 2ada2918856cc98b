/-- the reference takes a pin out -/
theorem s5_take {kk : Nat} {g : Page} {M7 : Mem} {Q : Int32 → Mem → Prop} (s : M7 120 = g) (hk : kk < 40) (k : Q (g (12 + 2 * kk)) (va_up M7 120 (removeF g kk))) :
    vp_in (12 + 2 * nI kk) 212 ∧
            ∃ (I13 : Int32 → Mem → Prop) (mu13 : Int32 → Mem → Nat), I13 (12 + 2 * nI kk) M7 ∧ ∀ (w14 : Int32) (M15 : Mem), I13 w14 M15 →
              ((92 ≤ w14 + 2 →
                Q (M7 (120) (12 + 2 * nI kk).toNatClampNeg) (mup M15 (120) 9 ((M15 (120) 9) - 1))
              ) ∧ (¬ 92 ≤ w14 + 2 →
                vp_in (w14 + 2) 212 ∧
                vp_in w14 212 ∧
                (I13 (w14 + 1) (mup M15 (120) (w14).toNatClampNeg (M15 (120) (w14 + 2).toNatClampNeg)) ∧ mu13 (w14 + 1) (mup M15 (120) (w14).toNatClampNeg (M15 (120) (w14 + 2).toNatClampNeg)) < mu13 w14 M15)
              )) := by
  rw [nI_lit2, nI_12, nI_clamp (by omega), s]
  refine ⟨vp212 (by omega), fun w M' => ∃ j, 12 + 2 * kk ≤ j ∧ j ≤ 90 ∧ w = nI j ∧ M' = va_up M7 120 (fun z => if 12 + 2 * kk ≤ z ∧ z < j then g (z + 2) else g z), fun w _ => 300 - w.toNatClampNeg, ⟨12 + 2 * kk, Nat.le_refl _, by omega, rfl, ?_⟩, ?_⟩
  · have : (fun z => if 12 + 2 * kk ≤ z ∧ z < 12 + 2 * kk then g (z + 2) else g z) = g := by
      funext z; rw [if_neg (by omega)]
    rw [this, ← s, vu_id]
  · rintro w M' ⟨j, h1, h2, rfl, rfl⟩
    rw [nI_add2, show (92 : Int32) = nI 92 from rfl, nI_leI (by omega) (by omega), nI_clamp (by omega), nI_clamp (by omega), mup_vu2, mup_vu2, vu_self]
    refine ⟨fun c => ?_, fun c => ⟨vp212 (by omega), vp212 (by omega), ⟨j + 1, by omega, by omega, nI_1 j, ?_⟩, ?_⟩⟩
    · have : j = 90 := by omega
      subst this
      have e : upd (fun z => if 12 + 2 * kk ≤ z ∧ z < 90 then g (z + 2) else g z) 9 ((if 12 + 2 * kk ≤ 9 ∧ 9 < 90 then g (9 + 2) else g 9) - 1) = removeF g kk := by
        unfold removeF
        rw [if_neg (by omega)]
        congr 1
        funext z
        by_cases c1 : 12 + 2 * kk ≤ z ∧ z < 90
        · rw [if_pos c1, if_pos (by omega)]
        · rw [if_neg c1, if_neg (by omega)]
      rw [e]; exact k
    · congr 1
      funext z
      simp only [updE]
      by_cases c1 : z = j
      · subst c1; rw [if_pos rfl, if_neg (show ¬ (12 + 2 * kk ≤ z + 2 ∧ z + 2 < z) by omega), if_pos (show 12 + 2 * kk ≤ z ∧ z < z + 1 by omega)]
      · rw [if_neg c1]
        by_cases c2 : 12 + 2 * kk ≤ z ∧ z < j
        · rw [if_pos c2, if_pos (by omega)]
        · rw [if_neg c2, if_neg (by omega)]
    · show 300 - (nI j + 1).toNatClampNeg < 300 - (nI j).toNatClampNeg
      rw [nI_1, nI_clamp (by omega), nI_clamp (by omega)]
      omega
/-- removePin -/
theorem c_removePin {x : Int32} {M : Mem} {V : Prop} {K : Mem → Prop} (I : LInv M) (hv : V) (k : ∀ M', LInv M' → K M') :
    wp_L_removePin x M (fun r7 M6 => V ∧ wp_X5_removePin x M6 (Tail r7 K)) := by
  obtain ⟨⟨h, s, e, v⟩, -⟩ := id I
  obtain ⟨-, -, -, -, -, -, -, -, v9, v10, -⟩ := id v
  have e9 : h 9 = M 120 9 := e.lo (by decide)
  have hp : pn (M 120) ≤ 40 := by unfold pn; omega
  have en := pn_of v9.1
  have bad : ¬ (0 ≤ x.toInt ∧ x.toInt < pn (M 120)) → V ∧ wp_X5_removePin x M (Tail 1 K) := fun c => by
    refine ⟨hv, ?_⟩
    simp only [wp_X5_removePin, forall_eq]
    refine s5_isPin v9 (fun n h1 h2 => absurd (by rw [h2, nI_toInt (by omega)]; omega) c) (fun _ => ⟨fun _ => s5_ref1 ⟨fun z => absurd z (by decide), fun _ => tail_ref I (by decide) k⟩, fun z => absurd rfl z⟩)
  simp only [wp_L_removePin, wp_X4_removePin, wp_X4_checkPin, forall_eq]
  rw [s_lt0, i32_lt, s.pins, e9, en]
  refine ⟨fun c => ⟨fun _ => bad (by omega), trivial⟩, fun c => ⟨fun c2 => ?_, fun c2 => ⟨fun _ => bad (by omega), trivial⟩⟩⟩
  have hx : x = nI x.toInt.toNat := nI_of_toInt (by omega)
  have hn : x.toInt.toNat < pn (M 120) := by omega
  generalize x.toInt.toNat = n at hx hn
  subst hx
  have E := PEq_take v9 v10.2 hn e
  refine s_remember I s (fun M1 J => ⟨vp_in_nI (by omega) (by decide), s_takePin J.1 (by rw [e9]; exact v9) (by rw [e.epn]; exact hn) (fun M2 s2 f2 => ?_)⟩)
  have J2 := J.op s2 f2.M
  rw [nI_clamp (by omega), J.1.place (by omega), (e.2.1 n hn).1]
  refine ⟨hv, ?_⟩
  simp only [wp_X5_removePin, forall_eq]
  have m120 : ∀ a, mup M2 126 0 a 120 = M 120 := fun a => by rw [mup_ne (by decide), J2.2.1]
  refine s5_isPin (by rw [m120]; exact v9) (fun n2 h1 h2 => ⟨fun z => absurd z (by decide), fun _ => s5_ref0 ⟨fun _ => s5_noteAct J2.mark e v (fun M3 g3 L3 r3 z0 z1 => ?_), fun z => absurd rfl z⟩⟩) (fun z => absurd (by rw [m120, nI_toInt (by omega)]; omega) z)
  exact s5_take g3 (by omega) (tail_act (by rw [z0, mk0]) (by rw [z1, mk1]) L3 E (Val_remove v hn) k)
/-- raise -/
theorem c_raise {M : Mem} {K : Mem → Prop} (I : LInv M) (k : ∀ M', LInv M' → K M') :
    wp_X4_raise M (fun r7 M6 => wp_X5_raise M6 (fun r10 M9 => (r7 = r10 → K M9) ∧ (¬ r7 = r10 → False))) := by
  obtain ⟨⟨h, s, e, v⟩, -⟩ := id I
  obtain ⟨-, -, -, -, -, -, -, -, v9, -⟩ := id v
  have e9 : h 9 = M 120 9 := e.lo (by decide)
  have v9' : 0 ≤ (h 9).toInt ∧ (h 9).toInt ≤ 40 := by rw [e9]; exact v9
  have E := PEq_raise v9 e
  simp only [wp_X4_raise, wp_X5_raise, forall_eq]
  refine s_remember I s (fun M1 J => s_standing J.1 v9' (s_standAll J.1 v9' (fun M2 s2 f2 => ?_)))
  have J2 := J.op s2 f2.M
  rw [J.1.pins, PEq_stand e, e9]
  refine s5_noteAct J2.mark0 e v (fun M3 g3 L3 r3 z0 z1 => s5_standing g3 v9 (s5_raiseOn g3 v9 ?_))
  rw [g3]
  exact ⟨fun _ => k _ (L3 _ E (Val_raise v)), fun z => absurd rfl z⟩
/-- read -/
theorem c_read {M : Mem} {K : Mem → Prop} (I : LInv M) (k : ∀ M', LInv M' → K M') :
    wp_L_read M (fun r7 M6 => wp_X5_read M6 (Tail r7 K)) := by
  obtain ⟨⟨h, s, e, v⟩, -⟩ := id I
  obtain ⟨-, -, -, -, -, -, -, -, v9, v10, v11, -⟩ := id v
  have e11 : h 11 = M 120 11 := e.lo (by decide)
  have en := rn_of v11.1
  have hr : rn (M 120) ≤ 20 := by unfold rn; omega
  have d20 : (20 : Int32).toInt = 20 := rfl
  simp only [wp_L_read, wp_X4_read, forall_eq]
  rw [i32_lt, s.reads, e11, d20]
  refine ⟨fun c => ?_, fun c => ⟨fun _ => ?_, trivial⟩⟩
  · have v11' : 0 ≤ (M 120 11).toInt ∧ (M 120 11).toInt < 20 := by omega
    have E := PEq_read v11' v9 v10.2 e
    refine s_remember I s (fun M1 J => s_noteReading J.1 (by rw [e11]; exact v11') (fun M2 s2 f2 => ?_))
    have J2 := J.op s2 f2.M
    rw [s2.reads]
    have m120 : ∀ a, mup M2 126 0 a 120 = M 120 := fun a => by rw [mup_ne (by decide), J2.2.1]
    simp only [wp_X5_read, forall_eq]
    have n20 : ¬ M 120 11 = 20 := by rw [i32_eq, d20]; omega
    rw [m120]
    refine ⟨fun _ => s5_ref0 ⟨fun _ => s5_noteAct J2.mark e v (fun M3 g3 L3 r3 z0 z1 => ?_), fun z => absurd rfl z⟩, fun z => absurd z n20⟩
    have er : M 120 11 = nI (rn (M 120)) := nI_of_toInt v11.1
    have hr' : rn (M 120) < 20 := by omega
    have i0' : (152 : Int32) + 3 * nI (rn (M 120)) = nI (152 + 3 * rn (M 120)) := by rw [nI_lit3]; exact nI_add 152 _
    rw [g3, er, i0', nI_1, nI_add2, nI_clamp (by omega), nI_clamp (by omega), nI_clamp (by omega)]
    have q : ∀ x y z, mup (mup (mup M3 120 (152 + 3 * rn (M 120)) x) 120 (152 + 3 * rn (M 120) + 1) y) 120 (152 + 3 * rn (M 120) + 2) z = va_up M3 120 (upd (upd (upd (M 120) (152 + 3 * rn (M 120)) x) (153 + 3 * rn (M 120)) y) (154 + 3 * rn (M 120)) z) := fun x y z => by
      rw [mup_s g3, mup_vu2, mup_vu2, show 152 + 3 * rn (M 120) + 1 = 153 + 3 * rn (M 120) by omega, show 152 + 3 * rn (M 120) + 2 = 154 + 3 * rn (M 120) by omega]
    have a1 : ∀ x j, j < 12 → mup M3 120 (152 + 3 * rn (M 120)) x 120 j = M 120 j := fun x j hj => by rw [mup_self, updE, if_neg (by omega), g3]
    have a2 : ∀ x y j, j < 12 → mup (mup M3 120 (152 + 3 * rn (M 120)) x) 120 (152 + 3 * rn (M 120) + 1) y 120 j = M 120 j := fun x y j hj => by rw [mup_self, updE, if_neg (by omega), a1 _ _ hj]
    rw [a1 _ 5 (by decide), a2 _ _ 7 (by decide), q]
    have a3 : ∀ x y z, va_up M3 120 (upd (upd (upd (M 120) (152 + 3 * rn (M 120)) x) (153 + 3 * rn (M 120)) y) (154 + 3 * rn (M 120)) z) 120 11 = M 120 11 := fun x y z => by
      rw [vu_self, updE, if_neg (by omega), updE, if_neg (by omega), updE, if_neg (by omega)]
    rw [a3, mup_vu2, vu_self]
    have eF : upd (upd (upd (upd (M 120) (152 + 3 * rn (M 120)) (M 120 8)) (153 + 3 * rn (M 120)) (M 120 5)) (154 + 3 * rn (M 120)) (M 120 7)) 11 (M 120 11 + 1) = readF (M 120) := rfl
    rw [eF]
    refine ⟨vp212 (by omega), vp212 (by omega), vp212 (by omega), ?_⟩
    refine tail_act (by rw [z0, mk0]) ?_ L3 E (Val_read v hr') k
    rw [z1, mk1, E.lo (by decide)]
  · simp only [wp_X5_read, forall_eq]
    have y20 : M 120 11 = 20 := by rw [i32_eq, d20]; omega
    exact ⟨fun z => absurd y20 z, fun _ => s5_ref1 ⟨fun z => absurd z (by decide), fun _ => tail_ref I (by decide) k⟩⟩

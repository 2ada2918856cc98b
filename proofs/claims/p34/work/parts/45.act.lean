/-! act -/
theorem nI_modp {a b : Nat} (ha : a < 2147483648) (hb : 0 < b) (hb2 : b < 2147483648) : nI a - nI a / nI b * nI b = nI (a % b) := by
  by_cases c : b = 1
  · subst c
    have e : nI a / nI 1 = nI a := by
      rw [i32_eq, i32_div (by decide), show (nI 1).toInt = 1 from rfl, Int.tdiv_one]
    rw [e, show nI a * nI 1 = nI (a * 1) from nI_mul a 1, Nat.mul_one, Nat.mod_one, Int32.sub_self]
    rfl
  · exact nI_mod ha (by omega) hb2
theorem nI_subT {a b : Nat} (ha : a < 100000) (hb : b < 100000) : (nI a - nI b).toInt = (a : Int) - b := by
  rw [i32_sub (by rw [nI_toInt (by omega), nI_toInt (by omega)]; omega) (by rw [nI_toInt (by omega), nI_toInt (by omega)]; omega), nI_toInt (by omega), nI_toInt (by omega)]
def actW (g : Page) (n y : Nat) (M : Mem) (Q : Int32 → Mem → Prop) : Prop :=
  if n ≤ 3 then wp_L_trySwing (nI (1 + y % 60)) M Q
  else if n ≤ 5 then wp_L_tryPush (nI (1 + y % 5000)) M Q
  else if n = 6 then wp_L_trySet 0 (nI (y % 181) - nI 90) M Q
  else if n = 7 then (if y % 2 = 0 then wp_L_trySet 1 (nI (60 + y / 2 % 200)) M Q else wp_L_trySet 3 (nI (1 + y / 2 % 6000)) M Q)
  else if n = 8 then wp_L_trySet (nI (2 + y % 2 * 2)) (nI (y / 2 % 100)) M Q
  else if n = 9 then wp_L_tryNudge (nI (y % 1201) - nI 600) M Q
  else if n ≤ 11 then wp_L_tryAddPin (nI (((g 5).toInt.toNat + y % 240 + 10680) % 10800)) M Q
  else if n = 12 then wp_L_tryRemovePin (nI (if pn g = 0 then 0 else y % pn g)) M Q
  else if n = 13 then (if y % 3 = 0 then wp_X4_raise M Q else wp_L_tryRead M Q)
  else if n = 14 then wp_L_tryUndo M Q
  else (if y % 2 = 0 then wp_L_trySave 1 M Q else wp_L_tryRestore 1 M Q)
theorem act_of {K K' : KS} {r : Int32} (v : Val K.1) (x y : Nat) (hx : x < 2147483648) (hy : y < 2147483648) (D : Does (actW K.1 (x % 16) y) K r K') : Does (wp_L_act (nI x) (nI y)) K r K' := by
  intro M Q R k
  have hp := pn_le v
  have em : ∀ b : Nat, 0 < b → b < 100000 → nI y - nI y / nI b * nI b = nI (y % b) := fun b h1 h2 => nI_modp hy h1 (by omega)
  have ed : nI y / 2 = nI (y / 2) := nI_div (b := 2) hy (by decide) (by decide)
  have em2 : ∀ b : Nat, 0 < b → b < 100000 → nI (y / 2) - nI (y / 2) / nI b * nI b = nI (y / 2 % b) := fun b h1 h2 => nI_modp (by omega) h1 (by omega)
  have e16 : nI x - nI x / 16 * 16 = nI (x % 16) := nI_mod (b := 16) hx (by decide) (by decide)
  have eq : ∀ a, a < 100 → (nI (x % 16) = nI a ↔ x % 16 = a) := fun a ha => by
    rw [i32_eq, nI_toInt (by omega), nI_toInt (by omega)]; omega
  simp only [wp_L_act, forall_eq]
  refine t_about 9 rfl (by decide) _ _ R (fun M R => ?_)
  rw [ab9 v, e16]
  rw [show (1 : Int32) = nI 1 from rfl, show (2 : Int32) = nI 2 from rfl, show (3 : Int32) = nI 3 from rfl, show (4 : Int32) = nI 4 from rfl, show (5 : Int32) = nI 5 from rfl, show (6 : Int32) = nI 6 from rfl, show (7 : Int32) = nI 7 from rfl, show (8 : Int32) = nI 8 from rfl, show (9 : Int32) = nI 9 from rfl, show (10 : Int32) = nI 10 from rfl, show (11 : Int32) = nI 11 from rfl, show (12 : Int32) = nI 12 from rfl, show (13 : Int32) = nI 13 from rfl, show (14 : Int32) = nI 14 from rfl]
  have D' : ∀ M, Rep M K → actW K.1 (x % 16) y M Q := fun M R => D M Q R k
  unfold actW at D'
  have z0 : nI (x % 16) = 0 ↔ x % 16 = 0 := eq 0 (by decide)
  have t0 : nI (y % 2) = 0 ↔ y % 2 = 0 := nI_zero (by omega)
  have q0 : nI (y % 3) = 0 ↔ y % 3 = 0 := nI_zero (by omega)
  have ep : nI (pn K.1) = 0 ↔ pn K.1 = 0 := nI_zero (by omega)
  have e2 : nI y - nI y / nI 2 * nI 2 = nI (y % 2) := em 2 (by decide) (by decide)
  have e3 : nI y - nI y / nI 3 * nI 3 = nI (y % 3) := em 3 (by decide) (by decide)
  have ed2 : nI y / nI 2 = nI (y / 2) := ed
  rw [z0, eq 1 (by decide), eq 2 (by decide), eq 3 (by decide), eq 4 (by decide), eq 5 (by decide), eq 6 (by decide), eq 7 (by decide), eq 8 (by decide), eq 9 (by decide), eq 10 (by decide), eq 11 (by decide), eq 12 (by decide), eq 13 (by decide), eq 14 (by decide), e2, e3, ed2, t0, q0]
  have n16 : x % 16 < 16 := Nat.mod_lt _ (by decide)
  generalize x % 16 = n at n16 D'
  have a60 : nI 1 + (nI y - nI y / 60 * 60) = nI (1 + y % 60) := by rw [show nI y - nI y / 60 * 60 = nI (y % 60) from em 60 (by decide) (by decide)]; exact nI_addn _ _
  have a50 : nI 1 + (nI y - nI y / 5000 * 5000) = nI (1 + y % 5000) := by rw [show nI y - nI y / 5000 * 5000 = nI (y % 5000) from em 5000 (by decide) (by decide)]; exact nI_addn _ _
  have a181 : nI y - nI y / 181 * 181 - 90 = nI (y % 181) - nI 90 := by rw [show nI y - nI y / 181 * 181 = nI (y % 181) from em 181 (by decide) (by decide)]; rfl
  have a12 : nI y - nI y / 1201 * 1201 - 600 = nI (y % 1201) - nI 600 := by rw [show nI y - nI y / 1201 * 1201 = nI (y % 1201) from em 1201 (by decide) (by decide)]; rfl
  have a6 : nI 1 + (nI (y / 2) - nI (y / 2) / 6000 * 6000) = nI (1 + y / 2 % 6000) := by rw [show nI (y / 2) - nI (y / 2) / 6000 * 6000 = nI (y / 2 % 6000) from em2 6000 (by decide) (by decide)]; exact nI_addn _ _
  have a2 : 60 + (nI (y / 2) - nI (y / 2) / 200 * 200) = nI (60 + y / 2 % 200) := by rw [show nI (y / 2) - nI (y / 2) / 200 * 200 = nI (y / 2 % 200) from em2 200 (by decide) (by decide)]; exact nI_addn 60 _
  have a100 : nI (y / 2) - nI (y / 2) / 100 * 100 = nI (y / 2 % 100) := em2 100 (by decide) (by decide)
  have a22 : nI 2 + nI (y % 2) * nI 2 = nI (2 + y % 2 * 2) := by rw [nI_mul]; exact nI_addn _ _
  rw [a60, a50, a181, a12, a6, a2, a100, a22]
  have add : ∀ M, Rep M K → n = 10 ∨ n = 11 → wp_L_tryAbout (nI 5) M (fun r67 M66 => wp_L_tryAddPin (r67 + (nI y - nI y / 240 * 240) + 10680 - (r67 + (nI y - nI y / 240 * 240) + 10680) / 10800 * 10800) M66 (fun r73 M72 => Q r73 M72)) := fun M R hn => by
    refine t_about 5 rfl (by decide) _ _ R (fun M R => ?_)
    obtain ⟨-, -, -, -, -, v5, -⟩ := id v
    have g5 : aboutF K.1 5 = nI (K.1 5).toInt.toNat := nI_of_toInt (x := K.1 5) v5.1
    have e240 : nI y - nI y / 240 * 240 = nI (y % 240) := em 240 (by decide) (by decide)
    have h5 : (K.1 5).toInt.toNat < 10800 := by omega
    rw [g5, e240, nI_addn, show (10680 : Int32) = nI 10680 from rfl, nI_addn]
    have e108 : ∀ a, a < 100000 → nI a - nI a / 10800 * 10800 = nI (a % 10800) := fun a ha => nI_mod (b := 10800) (by omega) (by decide) (by decide)
    rw [e108 _ (by omega)]
    have D2 := D' M R
    rw [if_neg (by omega), if_neg (by omega), if_neg (by omega), if_neg (by omega), if_neg (by omega), if_neg (by omega), if_pos (by omega)] at D2
    exact D2
  have D2 := D' M R
  refine ⟨fun c => ?_, fun c0 => ⟨fun c => ?_, fun c1 => ⟨fun c => ?_, fun c2 => ⟨fun c => ?_, fun c3 => ⟨fun c => ?_, fun c4 => ⟨fun c => ?_, fun c5 => ⟨fun c => ?_, fun c6 => ⟨fun c => ?_, fun c7 => ⟨fun c => ?_, fun c8 => ⟨fun c => ?_, fun c9 => ⟨fun c => ?_, fun c10 => ⟨fun c => ?_, fun c11 => ⟨fun c => ?_, fun c12 => ⟨fun c => ?_, fun c13 => ⟨fun c => ?_, fun c14 => ?_⟩⟩⟩⟩⟩⟩⟩⟩⟩⟩⟩⟩⟩⟩⟩
  · rw [if_pos (by omega)] at D2; exact D2
  · rw [if_pos (by omega)] at D2; exact D2
  · rw [if_pos (by omega)] at D2; exact D2
  · rw [if_pos (by omega)] at D2; exact D2
  · rw [if_neg (by omega), if_pos (by omega)] at D2; exact D2
  · rw [if_neg (by omega), if_pos (by omega)] at D2; exact D2
  · rw [if_neg (by omega), if_neg (by omega), if_pos (by omega)] at D2; exact D2
  · rw [if_neg (by omega), if_neg (by omega), if_neg (by omega), if_pos (by omega)] at D2
    refine ⟨fun z => ?_, fun z => ?_⟩
    · rw [if_neg z] at D2; exact D2
    · rw [if_pos z] at D2; exact D2
  · rw [if_neg (by omega), if_neg (by omega), if_neg (by omega), if_neg (by omega), if_pos (by omega)] at D2; exact D2
  · rw [if_neg (by omega), if_neg (by omega), if_neg (by omega), if_neg (by omega), if_neg (by omega), if_pos (by omega)] at D2; exact D2
  · exact add M R (Or.inl c)
  · exact add M R (Or.inr c)
  · rw [if_neg (by omega), if_neg (by omega), if_neg (by omega), if_neg (by omega), if_neg (by omega), if_neg (by omega), if_neg (by omega), if_pos (by omega)] at D2
    refine ⟨fun w => w = nI (if pn K.1 = 0 then 0 else y % pn K.1), ⟨fun z => ⟨z, ?_⟩, fun z => ?_⟩, fun w hw => ?_⟩
    · rw [ep] at z
      rw [if_neg z, em _ (by omega) (by omega)]
    · rw [ep] at z
      rw [if_pos z]; rfl
    · rw [hw]; exact D2
  · rw [if_neg (by omega), if_neg (by omega), if_neg (by omega), if_neg (by omega), if_neg (by omega), if_neg (by omega), if_neg (by omega), if_neg (by omega), if_pos (by omega)] at D2
    refine ⟨fun z => ?_, fun z => ?_⟩
    · rw [if_neg z] at D2; exact D2
    · rw [if_pos z] at D2; exact D2
  · rw [if_neg (by omega), if_neg (by omega), if_neg (by omega), if_neg (by omega), if_neg (by omega), if_neg (by omega), if_neg (by omega), if_neg (by omega), if_neg (by omega), if_pos (by omega)] at D2; exact D2
  · rw [if_neg (by omega), if_neg (by omega), if_neg (by omega), if_neg (by omega), if_neg (by omega), if_neg (by omega), if_neg (by omega), if_neg (by omega), if_neg (by omega), if_neg (by omega)] at D2
    refine ⟨fun z => ?_, fun z => ?_⟩
    · rw [if_neg z] at D2; exact D2
    · rw [if_pos z] at D2; exact D2
theorem act_does {K : KS} (v : Val K.1) (n y : Nat) : ∃ r K', Does (actW K.1 n y) K r K' := by
  have hp := pn_le v
  unfold actW
  by_cases c1 : n ≤ 3
  · simp only [if_pos c1]; exact ⟨_, _, t_swing _ rfl (by omega)⟩
  simp only [if_neg c1]
  by_cases c2 : n ≤ 5
  · simp only [if_pos c2]; exact ⟨_, _, t_push (by rw [nI_toInt (by omega)]; omega)⟩
  simp only [if_neg c2]
  by_cases c3 : n = 6
  · simp only [if_pos c3]; exact ⟨_, _, t_setting 0 rfl (by have := nI_subT (a := y % 181) (b := 90) (by omega) (by decide); unfold SetOK; omega)⟩
  simp only [if_neg c3]
  by_cases c4 : n = 7
  · simp only [if_pos c4]
    by_cases d : y % 2 = 0
    · simp only [if_pos d]; exact ⟨_, _, t_setting 1 rfl (by have := nI_toInt (n := 60 + y / 2 % 200) (by omega); unfold SetOK; omega)⟩
    · simp only [if_neg d]; exact ⟨_, _, t_setting 3 rfl (by have := nI_toInt (n := 1 + y / 2 % 6000) (by omega); unfold SetOK; omega)⟩
  simp only [if_neg c4]
  by_cases c5 : n = 8
  · simp only [if_pos c5]; exact ⟨_, _, t_setting (2 + y % 2 * 2) rfl (by have := nI_toInt (n := y / 2 % 100) (by omega); unfold SetOK; omega)⟩
  simp only [if_neg c5]
  by_cases c6 : n = 9
  · simp only [if_pos c6]; exact ⟨_, _, t_nudge (by have := nI_subT (a := y % 1201) (b := 600) (by omega) (by decide); omega)⟩
  simp only [if_neg c6]
  by_cases c7 : n ≤ 11
  · simp only [if_pos c7]
    have ha : ((K.1 5).toInt.toNat + y % 240 + 10680) % 10800 < 10800 := Nat.mod_lt _ (by decide)
    generalize ((K.1 5).toInt.toNat + y % 240 + 10680) % 10800 = a at ha
    have ht : (nI a).toInt = a := nI_toInt (by omega)
    by_cases c : pn K.1 < 40 ∧ pinF K.1 (nI a) = -9
    · exact ⟨_, _, t_addPin v (by omega) c.1 c.2⟩
    · refine ⟨_, _, t_addPinS v (by omega) ?_⟩
      by_cases d : pn K.1 = 40
      · exact Or.inl d
      · exact Or.inr (fun z => c ⟨by omega, z⟩)
  simp only [if_neg c7]
  by_cases c8 : n = 12
  · simp only [if_pos c8]
    by_cases d : pn K.1 = 0
    · simp only [if_pos d]; exact ⟨_, _, t_removePinI v (by rw [nI_toInt (by omega)]; omega)⟩
    · simp only [if_neg d]; exact ⟨_, _, t_removePin _ v rfl (Nat.mod_lt _ (by omega))⟩
  simp only [if_neg c8]
  by_cases c9 : n = 13
  · simp only [if_pos c9]
    by_cases d : y % 3 = 0
    · simp only [if_pos d]; exact ⟨_, _, t_raise v⟩
    · simp only [if_neg d]
      by_cases e : rn K.1 < 20
      · exact ⟨_, _, t_read v e⟩
      · exact ⟨_, _, t_readS v e⟩
  simp only [if_neg c9]
  by_cases c10 : n = 14
  · simp only [if_pos c10]
    by_cases e : 1 ≤ K.2.1.1
    · exact ⟨_, _, t_undo e⟩
    · exact ⟨_, _, t_undoS (by omega)⟩
  simp only [if_neg c10]
  by_cases d : y % 2 = 0
  · simp only [if_pos d]; exact ⟨_, _, t_save 1 rfl (by decide)⟩
  · simp only [if_neg d]
    cases e : K.2.2.1 1 with
    | none => exact ⟨_, _, t_restoreS 1 rfl (by decide) e⟩
    | some g => exact ⟨_, _, t_restore 1 g rfl (by decide) e⟩
theorem p_act {K : KS} (v : Val K.1) (x y : Nat) (hx : x < 2147483648) (hy : y < 2147483648) : ∃ r K', Does (wp_L_act (nI x) (nI y)) K r K' := by
  obtain ⟨r, K', D⟩ := act_does v (x % 16) y
  exact ⟨r, K', act_of v x y hx hy D⟩

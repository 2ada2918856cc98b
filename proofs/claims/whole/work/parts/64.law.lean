/-- load -/
theorem c_load {M : Mem} {K : Mem → Prop} (I : LInv M) (k : ∀ M', LInv M' → K M') :
    wp_L_load M (fun r7 M6 => wp_X5_load M6 (Tail r7 K)) := by
  obtain ⟨-, ⟨n, hn, e109, e117, et⟩, ⟨fr, cnt, f1, f2, f3, -⟩, -, ro⟩ := id I
  have ct : ∀ j, j < n → M 110 j = M 118 j := fun j hj => (et j hj).1
  have hc : ∀ j, j < n → 0 ≤ (M 118 j).toInt ∧ (M 118 j).toInt ≤ 255 := fun j hj => by rw [← ct j hj]; exact (et j hj).2
  simp only [wp_L_load, forall_eq]
  refine s_load hn e109 rfl (fun s hs => ⟨fun _ => ?_, rfl⟩) (fun hu hcm M1 H s1 m1 h1 h2 h3 h4 => ?_)
  · simp only [wp_X5_load, forall_eq]
    refine s5_readAll hn e117 rfl hc (fun M' ⟨s', g, hM, he⟩ => ⟨fun _ => s5_ref1 ⟨fun z => absurd z (by decide), fun _ => ?_⟩, fun z => absurd rfl z⟩) (fun hu hcm => absurd ⟨hu, hcm⟩ (hs.cong ct).not)
    subst hM
    exact tail_ref I.Wm (by decide) k
  · have hu' := hu.cong ct
    have p20 : (n - 13) / 4 ≤ 20 ∧ 13 + 4 * ((n - 13) / 4) = n := by
      have a := hcm.2
      have b := hcm.1
      refine ⟨?_, by omega⟩
      by_cases c : n ≤ 93
      · omega
      · obtain ⟨-, -, -, -, -, x, -⟩ := hu 93 (by omega)
        omega
    have q117 : ∀ j, mup M1 126 0 (nI ((n - 13) / 4)) 117 j = M 117 j := fun j => by rw [mup_ne (by decide), m1 117 (by decide) (by decide) (by decide)]
    have q118 : mup M1 126 0 (nI ((n - 13) / 4)) 118 = M 118 := by rw [mup_ne (by decide), m1 118 (by decide) (by decide) (by decide)]
    simp only [wp_X5_load, forall_eq]
    refine s5_readAll hn (by rw [q117]; exact e117) q118 hc (fun M' ⟨s', g, hM, he⟩ => absurd ⟨hu', hcm⟩ he.not) (fun _ _ => ⟨fun z => absurd z (by decide), fun _ => s5_ref0 ⟨fun _ => ?_, fun z => absurd rfl z⟩⟩)
    sorry
/-- one turn of the law -/
theorem law_case {xs : Nat → Int32} {L i : Nat} {M : Mem} {K : Int32 → Mem → Prop} (hL : L < 2147483648) (hi : i ≤ L) (I : LInv M) (k : ∀ M', LInv M' → K (nI i + 4) M') : wp_law xs L (nI i) M K := by
  have eL : (Int32.ofNat L - 4).toInt = (L : Int) - 4 := by
    have a : (Int32.ofNat L).toInt = L := nI_toInt hL
    have d4 : (4 : Int32).toInt = 4 := rfl
    rw [i32_sub (by rw [a, d4]; omega) (by rw [a, d4]; omega), a, d4]
  simp only [wp_law, forall_eq]
  rw [i32_lt, eL, nI_toInt (by omega)]
  refine ⟨fun _ => trivial, fun c => ⟨vp_in_nI (by omega) (by omega), ?_⟩⟩
  have a1 : vp_in (nI i + 1) L := by rw [nI_1]; exact vp_in_nI (by omega) (by omega)
  have a2 : vp_in (nI i + 2) L := by rw [nI_add2]; exact vp_in_nI (by omega) (by omega)
  have a3 : vp_in (nI i + 3) L := by rw [show (3 : Int32) = nI 3 from rfl, nI_addn]; exact vp_in_nI (by omega) (by omega)
  refine ⟨fun _ => ⟨a1, c_append I a1 k⟩, fun _ => ?_⟩
  refine ⟨fun _ => c_clearText I k, fun _ => ?_⟩
  refine ⟨fun _ => c_errorPosition I k, fun _ => ?_⟩
  refine ⟨fun _ => c_load I k, fun _ => ?_⟩
  refine ⟨fun _ => ⟨a1, c_about I a1 k⟩, fun _ => ?_⟩
  refine ⟨fun _ => ⟨a1, a2, c_pin I a1 a2 k⟩, fun _ => ?_⟩
  refine ⟨fun _ => ⟨a1, a2, c_hit I a1 a2 k⟩, fun _ => ?_⟩
  refine ⟨fun _ => ⟨a1, a2, c_reading I a1 a2 k⟩, fun _ => ?_⟩
  refine ⟨fun _ => ⟨a1, c_sine I a1 k⟩, fun _ => ?_⟩
  refine ⟨fun _ => ⟨a1, c_swing I a1 k⟩, fun _ => ?_⟩
  refine ⟨fun _ => ⟨a1, a2, c_set I a1 a2 k⟩, fun _ => ?_⟩
  refine ⟨fun _ => ⟨a1, c_push I a1 k⟩, fun _ => ?_⟩
  refine ⟨fun _ => ⟨a1, c_nudge I a1 k⟩, fun _ => ?_⟩
  refine ⟨fun _ => ⟨a1, c_addPin I a1 k⟩, fun _ => ?_⟩
  refine ⟨fun _ => ⟨a1, c_removePin I a1 k⟩, fun _ => ?_⟩
  refine ⟨fun _ => c_raise I k, fun _ => ?_⟩
  refine ⟨fun _ => c_read I k, fun _ => ?_⟩
  refine ⟨fun _ => c_undo I k, fun _ => ?_⟩
  refine ⟨fun _ => ⟨a1, a2, c_move I a1 a2 k⟩, fun _ => ?_⟩
  refine ⟨fun _ => ⟨a1, a2, c_time I a1 a2 k⟩, fun _ => ?_⟩
  refine ⟨fun _ => ⟨a1, a2, c_latitudeFrom I a1 a2 k⟩, fun _ => ?_⟩
  refine ⟨fun _ => ⟨a1, a2, c_ahead I a1 a2 k⟩, fun _ => ?_⟩
  refine ⟨fun _ => ⟨a1, c_fallsAfter I a1 k⟩, fun _ => ?_⟩
  refine ⟨fun _ => ⟨a1, c_lowAfter I a1 k⟩, fun _ => ?_⟩
  refine ⟨fun _ => ⟨a1, c_pushFor I a1 k⟩, fun _ => ?_⟩
  refine ⟨fun _ => ⟨a1, c_freeStart I a1 k⟩, fun _ => ?_⟩
  refine ⟨fun _ => c_next I k, fun _ => ?_⟩
  refine ⟨fun _ => ⟨a1, a2, a3, c_runScript I a1 a2 a3 k⟩, fun _ => ?_⟩
  refine ⟨fun _ => ⟨a1, a2, a3, c_simulate I a1 a2 a3 k⟩, fun _ => ?_⟩
  refine ⟨fun _ => ⟨a1, c_save I a1 k⟩, fun _ => ?_⟩
  refine ⟨fun _ => ⟨a1, c_restore I a1 k⟩, fun _ => ?_⟩
  exact k _ I

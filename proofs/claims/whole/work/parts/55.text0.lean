/-! THE TEXT: SIGNS IN AND OUT -/
theorem char_id : ∀ a, a < 256 → vp_nar .char (((nI a).toUInt32 % 65536).toInt32) = nI a := by decide +kernel
theorem d255 : (255 : Int32).toInt = 255 := rfl
theorem d100 : (100 : Int32).toInt = 100 := rfl
/-- append -/
theorem c_append {x : Int32} {M : Mem} {V : Prop} {K : Mem → Prop} (I : LInv M) (hv : V) (k : ∀ M', LInv M' → K M') :
    wp_L_append x M (fun r7 M6 => V ∧ wp_X5_append x M6 (Tail r7 K)) := by
  obtain ⟨nw, ⟨n, hn, e109, e117, et⟩, hi, sl, ro⟩ := id I
  have q100 : nI n = 100 ↔ n = 100 := by rw [i32_eq, nI_toInt (by omega), d100]; omega
  have bad1 : ¬ (0 ≤ x.toInt ∧ x.toInt ≤ 255) → V ∧ wp_X5_append x M (Tail 1 K) := fun c => by
    refine ⟨hv, ?_⟩
    simp only [wp_X5_append, forall_eq]
    refine s5_in32 0 255 rfl rfl (fun a b => absurd ⟨a, b⟩ c) (fun _ => ⟨fun z => absurd rfl z, fun _ => s5_ref1 ⟨fun z => absurd z (by decide), fun _ => tail_ref I (by decide) k⟩⟩)
  simp only [wp_L_append, wp_X4_append, forall_eq]
  rw [s_lt0, i32_le, d255, e109, show (100 : Int32) = nI 100 from rfl, nI_ltI (by omega) (by omega)]
  refine ⟨fun c => ⟨fun _ => bad1 (by omega), fun z => absurd z (by decide), Or.inl trivial⟩, fun c => ⟨fun c2 => ⟨fun c3 => ⟨vp_in_nI c3 (by decide), ?_⟩, fun c3 => ⟨fun z => absurd z (by decide), fun _ => ⟨hv, ?_⟩, Or.inr trivial⟩⟩, fun c2 => ⟨fun _ => bad1 (by omega), fun z => absurd z (by decide), Or.inl trivial⟩⟩⟩
  · have hx : x = nI x.toInt.toNat := nI_of_toInt (by omega)
    have hx2 : x.toInt.toNat < 256 := by omega
    generalize x.toInt.toNat = a at hx hx2
    subst hx
    rw [char_id a hx2, nI_clamp (by omega)]
    have e1 : mup M 110 n (nI a) 109 1 = nI n := by rw [mup_ne (by decide), e109]
    rw [e1, nI_1]
    have e2 : mup (mup M 110 n (nI a)) 109 1 (nI (n + 1)) 109 1 = nI (n + 1) := by rw [mup_self, updE, if_pos rfl]
    rw [e2]
    have a110 : ∀ j, mup (mup M 110 n (nI a)) 109 1 (nI (n + 1)) 110 j = if j = n then nI a else M 110 j := fun j => by
      rw [mup_ne (by decide), mup_self, updE]
    have am : ∀ c, c ≠ 109 → c ≠ 110 → mup (mup M 110 n (nI a)) 109 1 (nI (n + 1)) c = M c := fun c h1 h2 => by rw [mup_ne h1, mup_ne h2]
    generalize mup (mup M 110 n (nI a)) 109 1 (nI (n + 1)) = M1 at e2 a110 am
    refine ⟨hv, ?_⟩
    simp only [wp_X5_append, forall_eq]
    have b117 : ∀ z, mup M1 126 0 z 117 2 = nI n := fun z => by rw [mup_ne (by decide), am 117 (by decide) (by decide), e117]
    refine s5_in32 0 255 rfl rfl (fun _ _ => ⟨fun _ => ?_, fun z => absurd z (by decide)⟩) (fun z => absurd (by omega) z)
    rw [b117, q100]
    refine ⟨fun _ => s5_ref0 ⟨fun _ => ?_, fun z => absurd rfl z⟩, fun z => absurd z (by omega)⟩
    have c117 : ∀ j, mup (mup M1 126 0 (nI (n + 1))) 117 0 0 117 j = if j = 0 then 0 else M 117 j := fun j => by
      rw [mup_self, updE, mup_ne (by decide), am 117 (by decide) (by decide)]
    have c2' : mup (mup M1 126 0 (nI (n + 1))) 117 0 0 117 2 = nI n := by rw [c117, if_neg (by decide), e117]
    rw [c2', nI_clamp (by omega)]
    have e3 : mup (mup (mup M1 126 0 (nI (n + 1))) 117 0 0) 118 n (nI a) 117 2 = nI n := by rw [mup_ne (by decide), c2']
    rw [e3, nI_1]
    have e4 : mup (mup (mup (mup M1 126 0 (nI (n + 1))) 117 0 0) 118 n (nI a)) 117 2 (nI (n + 1)) 117 2 = nI (n + 1) := by rw [mup_self, updE, if_pos rfl]
    rw [e4]
    refine ⟨vp_in_nI (by omega) (by decide), ?_⟩
    have m : ∀ c, c ≠ 109 → c ≠ 110 → c ≠ 117 → c ≠ 118 → c ≠ 126 → mup (mup (mup (mup M1 126 0 (nI (n + 1))) 117 0 0) 118 n (nI a)) 117 2 (nI (n + 1)) c = M c := fun c h1 h2 h3 h4 h5 => by
      rw [mup_ne h3, mup_ne h4, mup_ne h3, mup_ne h5, am c h1 h2]
    have m117 : ∀ j, j ≠ 0 → j ≠ 2 → mup (mup (mup (mup M1 126 0 (nI (n + 1))) 117 0 0) 118 n (nI a)) 117 2 (nI (n + 1)) 117 j = M 117 j := fun j h0 h2 => by
      rw [mup_self, updE, if_neg h2, mup_ne (by decide), c117, if_neg h0]
    refine tail_of (by rw [mup_self, updE, if_neg (by decide), mup_ne (by decide), c117]; rfl) (fun _ => by rw [mup_ne (by decide), mup_ne (by decide), mk1]) (k _ ⟨nw.fr (fun c hc => m c (by omega) (by omega) (by omega) (by omega) (by omega)), ⟨n + 1, by omega, ?_, e4, fun j hj => ?_⟩, hi.fr (fun c hc => m c (by omega) (by omega) (by omega) (by omega) (by omega)) (m117 8 (by decide) (by decide)), sl.fr (fun c hc => m c (by omega) (by omega) (by omega) (by omega) (by omega)), ro.fr (m 125 (by decide) (by decide) (by decide) (by decide) (by decide))⟩)
    · rw [mup_ne (by decide), mup_ne (by decide), mup_ne (by decide), mup_ne (by decide), e2]
    · have h110 : mup (mup (mup (mup M1 126 0 (nI (n + 1))) 117 0 0) 118 n (nI a)) 117 2 (nI (n + 1)) 110 j = if j = n then nI a else M 110 j := by
        rw [mup_ne (by decide), mup_ne (by decide), mup_ne (by decide), mup_ne (by decide), a110]
      have h118 : mup (mup (mup (mup M1 126 0 (nI (n + 1))) 117 0 0) 118 n (nI a)) 117 2 (nI (n + 1)) 118 j = if j = n then nI a else M 118 j := by
        rw [mup_ne (by decide), mup_self, updE, mup_ne (by decide), mup_ne (by decide), am 118 (by decide) (by decide)]
      rw [h110, h118]
      by_cases c : j = n
      · rw [if_pos c, if_pos c, nI_toInt (by omega)]
        exact ⟨rfl, by omega, by omega⟩
      · rw [if_neg c, if_neg c]
        exact et j (by omega)
  · simp only [wp_X5_append, forall_eq]
    refine s5_in32 0 255 rfl rfl (fun _ _ => ⟨fun _ => ?_, fun z => absurd z (by decide)⟩) (fun z => absurd (by omega) z)
    rw [e117, q100]
    exact ⟨fun z => absurd (by omega) z, fun _ => s5_ref2 ⟨fun z => absurd z (by decide), fun _ => tail_ref I (by decide) k⟩⟩
/-- clearText -/
theorem c_clearText {M : Mem} {K : Mem → Prop} (I : LInv M) (k : ∀ M', LInv M' → K M') :
    wp_X4_clearText M (fun r7 M6 => wp_X5_clearText M6 (fun r10 M9 => (r7 = r10 → K M9) ∧ (¬ r7 = r10 → False))) := by
  obtain ⟨nw, ⟨n, hn, e109, e117, et⟩, hi, sl, ro⟩ := id I
  simp only [wp_X4_clearText, wp_X5_clearText, forall_eq]
  have e : mup (mup M 109 1 0) 117 0 0 117 2 = nI n := by rw [mup_self, updE, if_neg (by decide), mup_ne (by decide), e117]
  rw [e109, e]
  have m : ∀ c, c ≠ 109 → c ≠ 117 → mup (mup (mup M 109 1 0) 117 0 0) 117 2 0 c = M c := fun c h1 h2 => by rw [mup_ne h2, mup_ne h2, mup_ne h1]
  have m8 : mup (mup (mup M 109 1 0) 117 0 0) 117 2 0 117 8 = M 117 8 := by rw [mup_self, updE, if_neg (by decide), mup_self, updE, if_neg (by decide), mup_ne (by decide)]
  exact ⟨fun _ => k _ ⟨nw.fr (fun c hc => m c (by omega) (by omega)), ⟨0, by decide, by rw [mup_ne (by decide), mup_ne (by decide), mup_self, updE, if_pos rfl]; rfl, by rw [mup_self, updE, if_pos rfl]; rfl, fun j hj => absurd hj (by omega)⟩, hi.fr (fun c hc => m c (by omega) (by omega)) m8, sl.fr (fun c hc => m c (by omega) (by omega)), ro.fr (m 125 (by decide) (by decide))⟩, fun z => absurd rfl z⟩

/-- undo -/
theorem c_undo {M : Mem} {K : Mem → Prop} (I : LInv M) (k : ∀ M', LInv M' → K M') :
    wp_L_undo M (fun r7 M6 => wp_X5_undo M6 (Tail r7 K)) := by
  obtain ⟨⟨h, s, e, v⟩, tx, ⟨fr, cnt, h1, h2, h3, h4, h5, h6⟩, sl, ro⟩ := id I
  have e0 : nI cnt = 0 ↔ cnt = 0 := by rw [i32_eq, nI_toInt (by omega), i0]; omega
  simp only [wp_L_undo, wp_X4_undo, wp_X0_takeBack, forall_eq]
  rw [h4, h3, show (1 : Int32) = nI 1 from rfl, nI_leI (by omega) (by omega), show (0 : Int32) = nI 0 from rfl, nI_leI (by omega) (by omega)]
  have sub1 : ∀ a, 1 ≤ a → nI a - nI 1 = nI (a - 1) := fun a ha => by rw [Int32.sub_eq_iff_eq_add, nI_addn, Nat.sub_add_cancel ha]
  refine ⟨fun c => ?_, fun c => ⟨fun _ => ?_, trivial⟩⟩
  · -- the two ways to the state before
    have fin : ∀ z, z = (fr + 13) % 14 → vp_in (mup (mup M 113 1 (nI z)) 113 2 (mup M 113 1 (nI z) 113 2 - nI 1) 113 1) 14 ∧ wp_X2_copyFrom 0 (2 + (mup (mup M 113 1 (nI z)) 113 2 (mup M 113 1 (nI z) 113 2 - nI 1) 113 1).toNatClampNeg) (mup (mup M 113 1 (nI z)) 113 2 (mup M 113 1 (nI z) 113 2 - nI 1)) (fun M6 => wp_X5_undo (mup M6 126 0 (M6 113 2)) (Tail 0 K)) := by
      intro z hz
      have ea : mup M 113 1 (nI z) 113 2 - nI 1 = nI (cnt - 1) := by rw [mup_self, updE, if_neg (by decide), h4, sub1 _ c]
      rw [ea]
      have eb : mup (mup M 113 1 (nI z)) 113 2 (nI (cnt - 1)) 113 1 = nI z := by rw [mup_self, updE, if_neg (by decide), mup_self, updE, if_pos rfl]
      have ec : mup (mup M 113 1 (nI z)) 113 2 (nI (cnt - 1)) 113 2 = nI (cnt - 1) := by rw [mup_self, updE, if_pos rfl]
      have m : ∀ c, c ≠ 113 → mup (mup M 113 1 (nI z)) 113 2 (nI (cnt - 1)) c = M c := fun c hc => by rw [mup_ne hc, mup_ne hc]
      rw [eb, nI_clamp (by omega)]
      generalize mup (mup M 113 1 (nI z)) 113 2 (nI (cnt - 1)) = M1 at eb ec m
      obtain ⟨hT, sT, eT, vT⟩ := h6 (cnt - 1) (by omega)
      have rT : 2 + (fr + 14 - cnt + (cnt - 1)) % 14 = 2 + z := by omega
      rw [rT] at sT
      have sT1 : St M1 (2 + z) hT := sT.frame' (fun r hr => m _ (by omega))
      refine ⟨vp_in_nI (by omega) (by decide), s_copyFrom sT1 (by omega) (fun M2 s2 f2 => ?_)⟩
      have n : ∀ c, 6 ≤ c → M2 c = M1 c := fun c hc => f2 c (by omega)
      have nm : ∀ c, 6 ≤ c → c ≠ 113 → M2 c = M c := fun c a b => (n c a).trans (m c b)
      rw [n 113 (by decide), ec]
      have w117 : mup M2 126 0 (nI (cnt - 1)) 117 8 = nI cnt := by rw [mup_ne (by decide), nm 117 (by decide) (by decide), h5]
      simp only [wp_X5_undo, forall_eq]
      rw [w117, e0]
      refine ⟨fun _ => s5_ref0 ⟨fun _ => ?_, fun z => absurd rfl z⟩, fun z => absurd z (by omega)⟩
      have w2 : mup (mup M2 126 0 (nI (cnt - 1))) 117 0 0 117 8 - 1 = nI (cnt - 1) := by
        rw [mup_self, updE, if_neg (by decide), w117]
        exact sub1 _ c
      rw [w2]
      have w3 : mup (mup (mup M2 126 0 (nI (cnt - 1))) 117 0 0) 117 8 (nI (cnt - 1)) 117 8 = nI (cnt - 1) := by rw [mup_self, updE, if_pos rfl]
      have w4 : mup (mup (mup M2 126 0 (nI (cnt - 1))) 117 0 0) 117 8 (nI (cnt - 1)) 117 2 = M 117 2 := by
        rw [mup_self, updE, if_neg (by decide), mup_self, updE, if_neg (by decide), mup_ne (by decide), nm 117 (by decide) (by decide)]
      have w5 : mup (mup (mup M2 126 0 (nI (cnt - 1))) 117 0 0) 117 8 (nI (cnt - 1)) 117 0 = 0 := by
        rw [mup_self, updE, if_neg (by decide), mk0]
      have w6 : mup (mup (mup M2 126 0 (nI (cnt - 1))) 117 0 0) 117 8 (nI (cnt - 1)) 126 0 = nI (cnt - 1) := by
        rw [mup_ne (by decide), mk1]
      have wm : ∀ c, c ≠ 117 → c ≠ 126 → mup (mup (mup M2 126 0 (nI (cnt - 1))) 117 0 0) 117 8 (nI (cnt - 1)) c = M2 c := fun c a b => by
        rw [mup_ne a, mup_ne a, mup_ne b]
      rw [w3, show (212 : Int32) * nI (cnt - 1) = nI (212 * (cnt - 1)) from nI_mul 212 _]
      generalize mup (mup (mup M2 126 0 (nI (cnt - 1))) 117 0 0) 117 8 (nI (cnt - 1)) = M3 at w3 w4 w5 w6 wm
      refine s5_copyPage (x := 212 * (cnt - 1)) (y := 0) (by decide) (by omega) (by decide) (by decide) (by decide) ?_
      rw [wm 122 (by decide) (by decide), nm 122 (by decide) (by decide)]
      generalize hg : cpF (M 122) (M3 120) (212 * (cnt - 1)) 0 212 = g'
      have gE : ∀ j, j < 212 → g' j = M 122 (212 * (cnt - 1) + j) := fun j hj => by
        rw [← hg]; unfold cpF; rw [if_pos (by omega)]; congr 1; omega
      have q : ∀ c, 6 ≤ c → c ≠ 113 → c ≠ 117 → c ≠ 120 → c ≠ 126 → va_up M3 120 g' c = M c := fun c a b d e f => by
        rw [vu_ne e, wm c d f, nm c a b]
      have q117 : va_up M3 120 g' 117 = M3 117 := vu_ne (by decide)
      have q113 : va_up M3 120 g' 113 = M1 113 := by rw [vu_ne (by decide), wm 113 (by decide) (by decide), n 113 (by decide)]
      refine tail_of (by rw [q117, w5]) (fun _ => by rw [vu_ne (by decide), w6, q117, w3]) (k _ ⟨⟨hT, s2.frame' (fun r hr => ?_), ?_, ?_⟩, tx.fr (fun c hc => q c (by omega) (by omega) (by omega) (by omega) (by omega)) (by rw [q117, w4]), ⟨z, cnt - 1, by omega, by omega, by rw [q113, eb], by rw [q113, ec], by rw [q117, w3], fun t ht => ?_⟩, sl.fr (fun c hc => q c (by omega) (by omega) (by omega) (by omega) (by omega)), ro.fr (q 125 (by decide) (by decide) (by decide) (by decide) (by decide))⟩)
      · rw [vu_ne (by omega), wm _ (by omega) (by omega)]
      · rw [vu_self]; exact eT.trans (PEq_lt vT gE).symm
      · rw [vu_self]; exact Val_lt vT gE
      · obtain ⟨h', s', e', v'⟩ := h6 t (by omega)
        have er : 2 + (z + 14 - (cnt - 1) + t) % 14 = 2 + (fr + 14 - cnt + t) % 14 := by omega
        rw [er, q 122 (by decide) (by decide) (by decide) (by decide) (by decide)]
        refine ⟨h', s'.frame' (fun r hr => ?_), e', v'⟩
        have hz2 : (fr + 14 - cnt + t) % 14 < 14 := by omega
        generalize (fr + 14 - cnt + t) % 14 = z2 at hz2
        exact q _ (by omega) (by omega) (by omega) (by omega) (by omega)
    refine ⟨fun c2 => fin 13 (by omega), fun c2 => ?_⟩
    rw [sub1 _ (by omega)]
    exact fin _ (by omega)
  · simp only [wp_X5_undo, forall_eq]
    rw [h5, e0]
    exact ⟨fun z => absurd (by omega) z, fun _ => s5_ref1 ⟨fun z => absurd z (by decide), fun _ => tail_ref I (by decide) k⟩⟩
/-- save -/
theorem c_save {x : Int32} {M : Mem} {V : Prop} {K : Mem → Prop} (I : LInv M) (hv : V) (k : ∀ M', LInv M' → K M') :
    wp_L_save x M (fun r7 M6 => V ∧ wp_X5_save x M6 (Tail r7 K)) := by
  obtain ⟨⟨h, s, e, v⟩, tx, hi, sl, ro⟩ := id I
  have bad : ¬ (0 ≤ x.toInt ∧ x.toInt ≤ 1) → V ∧ wp_X5_save x M (Tail 1 K) := fun c => by
    refine ⟨hv, ?_⟩
    simp only [wp_X5_save, forall_eq]
    refine s5_in32 0 1 rfl rfl (fun a b => absurd ⟨a, b⟩ c) (fun _ => ⟨fun _ => s5_ref1 ⟨fun z => absurd z (by decide), fun _ => tail_ref I (by decide) k⟩, fun z => absurd rfl z⟩)
  simp only [wp_L_save, wp_X4_save, wp_X4_checkSlot, forall_eq]
  rw [s_lt0, i32_lt, d2']
  refine ⟨fun c => ⟨fun _ => bad (by omega), trivial⟩, fun c => ⟨fun c2 => ?_, fun c2 => ⟨fun _ => bad (by omega), trivial⟩⟩⟩
  have hx : x = nI x.toInt.toNat := nI_of_toInt (by omega)
  have hn : x.toInt.toNat < 2 := by omega
  generalize x.toInt.toNat = n at hx hn
  subst hx
  rw [nI_clamp (by omega)]
  refine ⟨vp_in_nI hn (by decide), s_copyFrom s (by omega) (fun M1 s1 f1 => ⟨vp_in_nI hn (by decide), ?_⟩)⟩
  have n1 : ∀ c, c < 96 ∨ 108 ≤ c → M1 c = M c := fun c hc => f1 c (by omega)
  have e4 : mup M1 116 n 1 (6 * 0) 4 = h 8 := by rw [mup_ne (by decide), n1 _ (by omega), s.clock]
  rw [e4, e.lo (by decide)]
  refine ⟨hv, ?_⟩
  simp only [wp_X5_save, forall_eq]
  refine s5_in32 0 1 rfl rfl (fun _ _ => ⟨fun z => absurd z (by decide), fun _ => s5_ref0 ⟨fun _ => ⟨vp_in_nI hn (by decide), ?_⟩, fun z => absurd rfl z⟩⟩) (fun c => absurd (by rw [nI_toInt (by omega)]; omega) c)
  rw [nI_clamp (by omega), show (212 : Int32) * nI n = nI (212 * n) from nI_mul 212 _]
  refine s5_copyPage (x := 0) (y := 212 * n) (by decide) (by omega) (by omega) (by decide) (by decide) ?_
  have q0 : ∀ c, c < 96 ∨ (108 ≤ c ∧ c ≠ 116 ∧ c ≠ 117 ∧ c ≠ 123 ∧ c ≠ 124 ∧ c ≠ 126) → mup (mup (mup (mup M1 116 n 1) 126 0 (M 120 8)) 117 0 0) 124 n 1 c = M c := fun c hc => by
    rw [mup_ne (by omega), mup_ne (by omega), mup_ne (by omega), mup_ne (by omega), n1 c (by omega)]
  have qs : ∀ c, 96 ≤ c → c < 108 → mup (mup (mup (mup M1 116 n 1) 126 0 (M 120 8)) 117 0 0) 124 n 1 c = M1 c := fun c h1 h2 => by
    rw [mup_ne (by omega), mup_ne (by omega), mup_ne (by omega), mup_ne (by omega)]
  have q116 : ∀ j, mup (mup (mup (mup M1 116 n 1) 126 0 (M 120 8)) 117 0 0) 124 n 1 116 j = if j = n then 1 else M 116 j := fun j => by
    rw [mup_ne (by decide), mup_ne (by decide), mup_ne (by decide), mup_self, updE, n1 116 (by omega)]
  have q124 : ∀ j, mup (mup (mup (mup M1 116 n 1) 126 0 (M 120 8)) 117 0 0) 124 n 1 124 j = if j = n then 1 else M 124 j := fun j => by
    rw [mup_self, updE, mup_ne (by decide), mup_ne (by decide), mup_ne (by decide), n1 124 (by omega)]
  have q123 : mup (mup (mup (mup M1 116 n 1) 126 0 (M 120 8)) 117 0 0) 124 n 1 123 = M 123 := by
    rw [mup_ne (by decide), mup_ne (by decide), mup_ne (by decide), mup_ne (by decide), n1 123 (by omega)]
  have q117 : ∀ j, mup (mup (mup (mup M1 116 n 1) 126 0 (M 120 8)) 117 0 0) 124 n 1 117 j = if j = 0 then 0 else M 117 j := fun j => by
    rw [mup_ne (by decide), mup_self, updE, mup_ne (by decide), mup_ne (by decide), n1 117 (by omega)]
  have q126 : mup (mup (mup (mup M1 116 n 1) 126 0 (M 120 8)) 117 0 0) 124 n 1 126 0 = M 120 8 := by
    rw [mup_ne (by decide), mk1]
  generalize mup (mup (mup (mup M1 116 n 1) 126 0 (M 120 8)) 117 0 0) 124 n 1 = M3 at q0 qs q116 q124 q123 q117 q126
  rw [q123, q0 120 (by omega)]
  generalize hg : cpF (M 120) (M 123) 0 (212 * n) 212 = g'
  have gE : ∀ j, j < 212 → g' (212 * n + j) = M 120 j := fun j hj => by
    rw [← hg]; unfold cpF; rw [if_pos (by omega)]; congr 1; omega
  have gO : ∀ m j, m < 2 → m ≠ n → j < 212 → g' (212 * m + j) = M 123 (212 * m + j) := fun m j hm hmn hj => by
    rw [← hg]; unfold cpF; rw [if_neg (by omega)]
  have r : ∀ c, c < 96 ∨ (108 ≤ c ∧ c ≠ 116 ∧ c ≠ 117 ∧ c ≠ 123 ∧ c ≠ 124 ∧ c ≠ 126) → va_up M3 123 g' c = M c := fun c hc => by
    rw [vu_ne (by omega), q0 c hc]
  have r117 : va_up M3 123 g' 117 = M3 117 := vu_ne (by decide)
  refine tail_of (by rw [r117, q117]; rfl) (fun _ => by rw [vu_ne (by decide), q126, r 120 (by omega)]) (k _ ⟨⟨h, s.frame' (fun r' hr => r _ (by omega)), by rw [r 120 (by omega)]; exact e, by rw [r 120 (by omega)]; exact v⟩, tx.fr (fun c hc => r c (by omega)) (by rw [r117, q117]; rfl), hi.fr (fun c hc => r c (by omega)) (by rw [r117, q117]; rfl), fun m hm => ?_, ro.fr (r 125 (by omega))⟩)
  rw [vu_ne (show 116 ≠ 123 by decide), vu_ne (show 124 ≠ 123 by decide), vu_self, q116, q124]
  obtain ⟨a1, a2, a3⟩ := sl m hm
  by_cases c : m = n
  · subst c
    rw [if_pos rfl, if_pos rfl]
    refine ⟨rfl, Or.inr rfl, fun _ => ⟨h, s1.frame' (fun r' hr => ?_), e.trans (PEq_lt v gE).symm, Val_lt v gE⟩⟩
    rw [vu_ne (by omega), qs _ (by omega) (by omega)]
  · rw [if_neg c, if_neg c]
    refine ⟨a1, a2, fun z => ?_⟩
    obtain ⟨h', s', e', v'⟩ := a3 z
    refine ⟨h', s'.frame' (fun r' hr => ?_), e'.trans (PEq_lt v' (fun j hj => gO m j hm c hj)).symm, Val_lt v' (fun j hj => gO m j hm c hj)⟩
    rw [vu_ne (by omega), qs _ (by omega) (by omega)]
    exact f1 _ (by omega)
/-- restore -/
theorem c_restore {x : Int32} {M : Mem} {V : Prop} {K : Mem → Prop} (I : LInv M) (hv : V) (k : ∀ M', LInv M' → K M') :
    wp_L_restore x M (fun r7 M6 => V ∧ wp_X5_restore x M6 (Tail r7 K)) := by
  obtain ⟨-, tx, ⟨fr, cnt, h1, h2, h3, h4, h5, h6⟩, sl, ro⟩ := id I
  have bad : ¬ (0 ≤ x.toInt ∧ x.toInt ≤ 1) → V ∧ wp_X5_restore x M (Tail 1 K) := fun c => by
    refine ⟨hv, ?_⟩
    simp only [wp_X5_restore, forall_eq]
    refine s5_in32 0 1 rfl rfl (fun a b => absurd ⟨a, b⟩ c) (fun _ => ⟨fun z => absurd rfl z, fun _ => s5_ref1 ⟨fun z => absurd z (by decide), fun _ => tail_ref I (by decide) k⟩⟩)
  simp only [wp_L_restore, wp_X4_restore, wp_X4_checkSlot, wp_X0_forget, forall_eq]
  rw [s_lt0, i32_lt, d2']
  refine ⟨fun c => ⟨fun _ => bad (by omega), fun z => absurd z (by decide), Or.inl trivial⟩, fun c => ⟨fun c2 => ?_, fun c2 => ⟨fun _ => bad (by omega), fun z => absurd z (by decide), Or.inl trivial⟩⟩⟩
  have hx : x = nI x.toInt.toNat := nI_of_toInt (by omega)
  have hn : x.toInt.toNat < 2 := by omega
  generalize x.toInt.toNat = n at hx hn
  subst hx
  rw [nI_clamp (by omega)]
  obtain ⟨a1, a2, a3⟩ := sl n hn
  refine ⟨vp_in_nI hn (by decide), fun c3 => ⟨vp_in_nI hn (by decide), ?_⟩, fun c3 => ⟨fun z => absurd z (by decide), fun _ => ⟨hv, ?_⟩, Or.inr trivial⟩⟩
  · obtain ⟨h, s, e, v⟩ := a3 (a2.resolve_left c3)
    refine s_copyFrom s (by omega) (fun M1 s1 f1 => ?_)
    have n1 : ∀ c, 6 ≤ c → M1 c = M c := fun c hc => f1 c (by omega)
    have e4 : mup M1 113 2 0 (6 * 0) 4 = h 8 := by rw [mup_ne (by decide), s1.clock]
    rw [e4]
    refine ⟨hv, ?_⟩
    simp only [wp_X5_restore, forall_eq]
    refine s5_in32 0 1 rfl rfl (fun _ _ => ⟨fun _ => ⟨vp_in_nI hn (by decide), ?_⟩, fun z => absurd z (by decide)⟩) (fun c => absurd (by rw [nI_toInt (by omega)]; omega) c)
    rw [nI_clamp (by omega), show (212 : Int32) * nI n = nI (212 * n) from nI_mul 212 _]
    have c124 : ¬ mup (mup M1 113 2 0) 126 0 (h 8) 124 n = 0 := by
      rw [mup_ne (by decide), mup_ne (by decide), n1 124 (by decide), ← a1]; exact c3
    refine ⟨fun _ => s5_ref0 ⟨fun _ => ?_, fun z => absurd rfl z⟩, fun z => absurd z c124⟩
    refine s5_copyPage (x := 212 * n) (y := 0) (by decide) (by omega) (by decide) (by decide) (by decide) ?_
    have q : ∀ c, 6 ≤ c → c ≠ 113 → c ≠ 117 → c ≠ 126 → mup (mup (mup M1 113 2 0) 126 0 (h 8)) 117 0 0 c = M c := fun c a b d e => by
      rw [mup_ne d, mup_ne e, mup_ne b, n1 c a]
    have q117 : ∀ j, mup (mup (mup M1 113 2 0) 126 0 (h 8)) 117 0 0 117 j = if j = 0 then 0 else M 117 j := fun j => by
      rw [mup_self, updE, mup_ne (by decide), mup_ne (by decide), n1 117 (by decide)]
    have q113 : ∀ j, mup (mup (mup M1 113 2 0) 126 0 (h 8)) 117 0 0 113 j = if j = 2 then 0 else M 113 j := fun j => by
      rw [mup_ne (by decide), mup_ne (by decide), mup_self, updE, n1 113 (by decide)]
    have q126 : mup (mup (mup M1 113 2 0) 126 0 (h 8)) 117 0 0 126 0 = h 8 := mk1
    have qs : ∀ c, c < 6 → mup (mup (mup M1 113 2 0) 126 0 (h 8)) 117 0 0 c = M1 c := fun c hc => by
      rw [mup_ne (by omega), mup_ne (by omega), mup_ne (by omega)]
    generalize mup (mup (mup M1 113 2 0) 126 0 (h 8)) 117 0 0 = M3 at q q117 q113 q126 qs
    rw [q 123 (by decide) (by decide) (by decide) (by decide)]
    generalize hg : cpF (M 123) (M3 120) (212 * n) 0 212 = g'
    have gE : ∀ j, j < 212 → g' j = M 123 (212 * n + j) := fun j hj => by
      rw [← hg]; unfold cpF; rw [if_pos (by omega)]; congr 1; omega
    have r : ∀ c, 6 ≤ c → c ≠ 113 → c ≠ 117 → c ≠ 120 → c ≠ 126 → mup (va_up M3 120 g') 117 8 0 c = M c := fun c a b d e f => by
      rw [mup_ne d, vu_ne e, q c a b d f]
    have r117 : ∀ j, j ≠ 0 → j ≠ 8 → mup (va_up M3 120 g') 117 8 0 117 j = M 117 j := fun j a b => by
      rw [mup_self, updE, if_neg b, vu_ne (by decide), q117, if_neg a]
    have r113 : ∀ j, mup (va_up M3 120 g') 117 8 0 113 j = if j = 2 then 0 else M 113 j := fun j => by
      rw [mup_ne (by decide), vu_ne (by decide), q113]
    have r120 : mup (va_up M3 120 g') 117 8 0 120 = g' := by rw [mup_ne (by decide), vu_self]
    have ge := e.trans (PEq_lt v gE).symm
    refine tail_of (by rw [mup_self, updE, if_neg (by decide), vu_ne (by decide), q117]; rfl) (fun _ => by rw [mup_ne (by decide), vu_ne (by decide), q126, r120, ge.lo (by decide)]) (k _ ⟨⟨h, s1.frame' (fun r' hr => ?_), by rw [r120]; exact ge, by rw [r120]; exact Val_lt v gE⟩, tx.fr (fun c hc => r c (by omega) (by omega) (by omega) (by omega) (by omega)) (r117 2 (by decide) (by decide)), ⟨fr, 0, h1, by omega, by rw [r113, if_neg (by decide), h3], by rw [r113, if_pos rfl]; rfl, by rw [mup_self, updE, if_pos rfl]; rfl, fun t ht => absurd ht (by omega)⟩, sl.fr (fun c hc => r c (by omega) (by omega) (by omega) (by omega) (by omega)), ro.fr (r 125 (by decide) (by decide) (by decide) (by decide) (by decide))⟩)
    rw [mup_ne (by omega), vu_ne (by omega), qs _ (by omega)]
  · simp only [wp_X5_restore, forall_eq]
    refine s5_in32 0 1 rfl rfl (fun _ _ => ⟨fun _ => ⟨vp_in_nI hn (by decide), ?_⟩, fun z => absurd z (by decide)⟩) (fun c => absurd (by rw [nI_toInt (by omega)]; omega) c)
    rw [nI_clamp (by omega), ← a1]
    exact ⟨fun z => absurd c3 z, fun _ => s5_ref2 ⟨fun z => absurd z (by decide), fun _ => tail_ref I (by decide) k⟩⟩

theorem ldN_cong {t t' g : Page} : ∀ k, (∀ j, j < k → deg t j = deg t' j) → ldN t g k = ldN t' g k
  | 0, _ => rfl
  | k + 1, h => by
    show putF (ldN t g k) (nI (60 * deg t k)) = putF (ldN t' g k) (nI (60 * deg t' k))
    rw [ldN_cong k (fun j hj => h j (by omega)), h k (by omega)]
theorem ld_cong {t t' : Page} {n : Nat} (h : ∀ j, j < n → t j = t' j) (h13 : 13 ≤ n) {H : Page} {k : Nat} (hk : 13 + 4 * k ≤ n) : ldN t (ldH t H) k = ldN t' (ldH t' H) k := by
  have e : ldH t H = ldH t' H := by
    unfold ldH latF
    rw [num_cong (t := t) (t' := t') 2 (fun j hj => h _ (by omega)), num_cong (t := t) (t' := t') 3 (fun j hj => h _ (by omega)), num_cong (t := t) (t' := t') (a := 7) 2 (fun j hj => h _ (by omega)), num_cong (t := t) (t' := t') 4 (fun j hj => h _ (by omega)), h 1 (by omega)]
  rw [e]
  exact ldN_cong k (fun j hj => num_cong 3 (fun x hx => h _ (by omega)))
/-- load -/
theorem c_load {M : Mem} {K : Mem → Prop} (I : LInv M) (k : ∀ M', LInv M' → K M') :
    wp_L_load M (fun r7 M6 => wp_X5_load M6 (Tail r7 K)) := by
  obtain ⟨-, ⟨n, hn, e109, e117, et⟩, ⟨fr, cnt, f1, f2, f3, -⟩, -, ro⟩ := id I
  have ct : ∀ j, j < n → M 110 j = M 118 j := fun j hj => (et j hj).1
  have hc : ∀ j, j < n → 0 ≤ (M 118 j).toInt ∧ (M 118 j).toInt ≤ 255 := fun j hj => by rw [← ct j hj]; exact (et j hj).2
  simp only [wp_L_load, forall_eq]
  refine s_load hn e109 rfl (fun s hs => ⟨fun _ => ?_, rfl⟩) (fun hu hcm M1 H s1 m1 h1 h2 h3 h4 => ?_)
  · simp only [wp_X5_load, forall_eq]
    refine s5_readAll hn e117 rfl hc (fun M' ⟨s', g, hM, he⟩ => ⟨fun _ => s5_ref1 ⟨fun z => absurd z (by decide), fun _ => ?_⟩, fun z => absurd rfl z⟩) (fun hu hcm => absurd ⟨hu, hcm⟩ (hs.cong ct).not)
    subst hM
    exact tail_ref I.Wm (by decide) k
  · have hu' := hu.cong ct
    have p20 : (n - 13) / 4 ≤ 20 ∧ 13 + 4 * ((n - 13) / 4) = n := by
      have a := hcm.2
      have b := hcm.1
      refine ⟨?_, by omega⟩
      by_cases c : n ≤ 93
      · omega
      · obtain ⟨-, -, -, -, -, x, -⟩ := hu 93 (by omega)
        omega
    have q117 : ∀ j, mup M1 126 0 (nI ((n - 13) / 4)) 117 j = M 117 j := fun j => by rw [mup_ne (by decide), m1 117 (by decide) (by decide) (by decide)]
    have q118 : mup M1 126 0 (nI ((n - 13) / 4)) 118 = M 118 := by rw [mup_ne (by decide), m1 118 (by decide) (by decide) (by decide)]
    simp only [wp_X5_load, forall_eq]
    refine s5_readAll hn (by rw [q117]; exact e117) q118 hc (fun M' ⟨s', g, hM, he⟩ => absurd ⟨hu', hcm⟩ he.not) (fun _ _ => ⟨fun z => absurd z (by decide), fun _ => s5_ref0 ⟨fun _ => ?_, fun z => absurd rfl z⟩⟩)
    generalize hr : nI ((n - 13) / 4) = r
    have vL := Val_ldN (p := mup M1 126 0 r 119) hu' ((n - 13) / 4) p20.1 (by omega)
    have pL := PEq_ldN (t := M 118) (ldG_9 (M 118) (mup M1 126 0 r 119)) (PEq_ldH (t := M 118) (h := H) (p := mup M1 126 0 r 119)) ((n - 13) / 4) p20.1
    rw [← ld_cong ct hcm.1 (by omega)] at pL
    have l9 := (ld_facts (t := M 118) (ldG_9 (M 118) (mup M1 126 0 r 119)) ((n - 13) / 4) p20.1).1
    rw [hr] at l9
    generalize ldN (M 118) (ldG (M 118) (mup M1 126 0 r 119)) ((n - 13) / 4) = gL at vL pL l9
    refine s5_copyPage (x := 0) (y := 0) (by decide) (by decide) (by decide) (by decide) (by decide) ?_
    have gE : ∀ j, j < 212 → cpF (mup (Wm (mup M1 126 0 r) n gL) 117 0 0 119) (mup (Wm (mup M1 126 0 r) n gL) 117 0 0 120) 0 0 212 j = gL j := fun j hj => by
      unfold cpF
      rw [if_pos (by omega), mup_ne (by decide), Wm_self]; congr 1
    generalize cpF (mup (Wm (mup M1 126 0 r) n gL) 117 0 0 119) (mup (Wm (mup M1 126 0 r) n gL) 117 0 0 120) 0 0 212 = g' at gE
    have w : ∀ c, c ≠ 117 → c ≠ 119 → c ≠ 120 → c ≠ 124 → c ≠ 126 → mup (mup (mup (va_up (mup (Wm (mup M1 126 0 r) n gL) 117 0 0) 120 g') 117 8 0) 124 0 0) 124 1 0 c = M1 c := fun c a b d e f => by
      rw [mup_ne e, mup_ne e, mup_ne a, vu_ne d, mup_ne a, Wm_ne a b, mup_ne f]
    have w120 : mup (mup (mup (va_up (mup (Wm (mup M1 126 0 r) n gL) 117 0 0) 120 g') 117 8 0) 124 0 0) 124 1 0 120 = g' := by
      rw [mup_ne (by decide), mup_ne (by decide), mup_ne (by decide), vu_self]
    have w126 : mup (mup (mup (va_up (mup (Wm (mup M1 126 0 r) n gL) 117 0 0) 120 g') 117 8 0) 124 0 0) 124 1 0 126 0 = r := by
      rw [mup_ne (by decide), mup_ne (by decide), mup_ne (by decide), vu_ne (by decide), mup_ne (by decide), Wm_ne (by decide) (by decide), mup_self, updE, if_pos rfl]
    have w117 : ∀ j, j ≠ 3 → mup (mup (mup (va_up (mup (Wm (mup M1 126 0 r) n gL) 117 0 0) 120 g') 117 8 0) 124 0 0) 124 1 0 117 j = if j = 8 then 0 else if j = 0 then 0 else M 117 j := fun j hj => by
      rw [mup_ne (by decide), mup_ne (by decide), mup_self, updE, vu_ne (by decide), mup_self, updE, Wm_f hj, mup_ne (by decide), m1 117 (by decide) (by decide) (by decide)]
    have w124 : ∀ j, j < 2 → mup (mup (mup (va_up (mup (Wm (mup M1 126 0 r) n gL) 117 0 0) 120 g') 117 8 0) 124 0 0) 124 1 0 124 j = 0 := fun j hj => by
      rw [mup_self, updE, mup_self, updE]
      rcases (show j = 0 ∨ j = 1 by omega) with z | z <;> subst z <;> rfl
    have wM : ∀ c, 6 ≤ c → c ≠ 113 → c ≠ 116 → c ≠ 117 → c ≠ 119 → c ≠ 120 → c ≠ 124 → c ≠ 126 → mup (mup (mup (va_up (mup (Wm (mup M1 126 0 r) n gL) 117 0 0) 120 g') 117 8 0) 124 0 0) 124 1 0 c = M c := fun c a b d e f g h i => by rw [w c e f g h i, m1 c a b d]
    generalize mup (mup (mup (va_up (mup (Wm (mup M1 126 0 r) n gL) 117 0 0) 120 g') 117 8 0) 124 0 0) 124 1 0 = M9 at w w120 w126 w117 w124 wM
    refine tail_of (by rw [w117 0 (by decide)]; rfl) (fun _ => by rw [w126, w120, gE 9 (by decide), l9]) (k _ ⟨⟨_, s1.frame' (fun r hr => w _ (by omega) (by omega) (by omega) (by omega) (by omega)), by rw [w120]; exact pL.trans (PEq_lt vL gE).symm, by rw [w120]; exact Val_lt vL gE⟩, ⟨n, hn, ?_, ?_, ?_⟩, ⟨fr, 0, f1, by decide, ?_, ?_, ?_, fun t ht => absurd ht (by omega)⟩, fun s hs => ⟨?_, Or.inl ?_, fun z => ?_⟩, ro.fr (wM 125 (by decide) (by decide) (by decide) (by decide) (by decide) (by decide) (by decide) (by decide))⟩)
    · rw [wM 109 (by decide) (by decide) (by decide) (by decide) (by decide) (by decide) (by decide) (by decide)]; exact e109
    · rw [w117 2 (by decide)]; exact e117
    · rw [wM 110 (by decide) (by decide) (by decide) (by decide) (by decide) (by decide) (by decide) (by decide), wM 118 (by decide) (by decide) (by decide) (by decide) (by decide) (by decide) (by decide) (by decide)]; exact et
    · rw [w 113 (by decide) (by decide) (by decide) (by decide) (by decide), h1]; exact f3
    · rw [w 113 (by decide) (by decide) (by decide) (by decide) (by decide), h2]; rfl
    · rw [w117 8 (by decide)]; rfl
    · rw [w 116 (by decide) (by decide) (by decide) (by decide) (by decide), w124 s hs]
      rcases (show s = 0 ∨ s = 1 by omega) with z | z <;> subst z
      · exact h3
      · exact h4
    · rw [w 116 (by decide) (by decide) (by decide) (by decide) (by decide)]
      rcases (show s = 0 ∨ s = 1 by omega) with z | z <;> subst z
      · exact h3
      · exact h4
    · rw [w 116 (by decide) (by decide) (by decide) (by decide) (by decide)] at z
      rcases (show s = 0 ∨ s = 1 by omega) with y | y <;> subst y
      · rw [h3] at z; exact absurd z (by decide)
      · rw [h4] at z; exact absurd z (by decide)
/-- one turn of the law -/
theorem law_case {xs : Nat → Int32} {L i : Nat} {M : Mem} {K : Int32 → Mem → Prop} (hL : L < 2147483648) (hi : i ≤ L) (I : LInv M) (k : ∀ M', LInv M' → K (nI i + 4) M') : wp_law xs L (nI i) M K := by
  have eL : (Int32.ofNat L - 4).toInt = (L : Int) - 4 := by
    have a : (Int32.ofNat L).toInt = L := nI_toInt hL
    have d4 : (4 : Int32).toInt = 4 := rfl
    rw [i32_sub (by rw [a, d4]; omega) (by rw [a, d4]; omega), a, d4]
  simp only [wp_law, forall_eq]
  rw [i32_lt, eL, nI_toInt (by omega)]
  refine ⟨fun _ => trivial, fun c => ⟨vp_in_nI (by omega) (by omega), ?_⟩⟩
  have a1 : vp_in (nI i + 1) L := by rw [nI_1]; exact vp_in_nI (by omega) (by omega)
  have a2 : vp_in (nI i + 2) L := by rw [nI_add2]; exact vp_in_nI (by omega) (by omega)
  have a3 : vp_in (nI i + 3) L := by rw [show (3 : Int32) = nI 3 from rfl, nI_addn]; exact vp_in_nI (by omega) (by omega)
  refine ⟨fun _ => ⟨a1, c_append I a1 k⟩, fun _ => ?_⟩
  refine ⟨fun _ => c_clearText I k, fun _ => ?_⟩
  refine ⟨fun _ => c_errorPosition I k, fun _ => ?_⟩
  refine ⟨fun _ => c_load I k, fun _ => ?_⟩
  refine ⟨fun _ => ⟨a1, c_about I a1 k⟩, fun _ => ?_⟩
  refine ⟨fun _ => ⟨a1, a2, c_pin I a1 a2 k⟩, fun _ => ?_⟩
  refine ⟨fun _ => ⟨a1, a2, c_hit I a1 a2 k⟩, fun _ => ?_⟩
  refine ⟨fun _ => ⟨a1, a2, c_reading I a1 a2 k⟩, fun _ => ?_⟩
  refine ⟨fun _ => ⟨a1, c_sine I a1 k⟩, fun _ => ?_⟩
  refine ⟨fun _ => ⟨a1, c_swing I a1 k⟩, fun _ => ?_⟩
  refine ⟨fun _ => ⟨a1, a2, c_set I a1 a2 k⟩, fun _ => ?_⟩
  refine ⟨fun _ => ⟨a1, c_push I a1 k⟩, fun _ => ?_⟩
  refine ⟨fun _ => ⟨a1, c_nudge I a1 k⟩, fun _ => ?_⟩
  refine ⟨fun _ => ⟨a1, c_addPin I a1 k⟩, fun _ => ?_⟩
  refine ⟨fun _ => ⟨a1, c_removePin I a1 k⟩, fun _ => ?_⟩
  refine ⟨fun _ => c_raise I k, fun _ => ?_⟩
  refine ⟨fun _ => c_read I k, fun _ => ?_⟩
  refine ⟨fun _ => c_undo I k, fun _ => ?_⟩
  refine ⟨fun _ => ⟨a1, a2, c_move I a1 a2 k⟩, fun _ => ?_⟩
  refine ⟨fun _ => ⟨a1, a2, c_time I a1 a2 k⟩, fun _ => ?_⟩
  refine ⟨fun _ => ⟨a1, a2, c_latitudeFrom I a1 a2 k⟩, fun _ => ?_⟩
  refine ⟨fun _ => ⟨a1, a2, c_ahead I a1 a2 k⟩, fun _ => ?_⟩
  refine ⟨fun _ => ⟨a1, c_fallsAfter I a1 k⟩, fun _ => ?_⟩
  refine ⟨fun _ => ⟨a1, c_lowAfter I a1 k⟩, fun _ => ?_⟩
  refine ⟨fun _ => ⟨a1, c_pushFor I a1 k⟩, fun _ => ?_⟩
  refine ⟨fun _ => ⟨a1, c_freeStart I a1 k⟩, fun _ => ?_⟩
  refine ⟨fun _ => c_next I k, fun _ => ?_⟩
  refine ⟨fun _ => ⟨a1, a2, a3, c_runScript I a1 a2 a3 k⟩, fun _ => ?_⟩
  refine ⟨fun _ => ⟨a1, a2, a3, c_simulate I a1 a2 a3 k⟩, fun _ => ?_⟩
  refine ⟨fun _ => ⟨a1, c_save I a1 k⟩, fun _ => ?_⟩
  refine ⟨fun _ => ⟨a1, c_restore I a1 k⟩, fun _ => ?_⟩
  exact k _ I

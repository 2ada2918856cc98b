def begH (h : Page) : Page := fun x => if x < 5 then fFIRST x else if x = 7 then 5000 else if x < 12 then 0 else h x
theorem PEq_begH {h p : Page} : PEq (begH h) (begF p) := by
  obtain ⟨⟨b0, b1, b2, b3, b7⟩, bz⟩ := begF_lo (g := p)
  have z9 : begF p 9 = 0 := bz 9 (by decide) (by decide) (by decide) (by decide) (by decide) (by decide)
  have z10 : begF p 10 = 0 := bz 10 (by decide) (by decide) (by decide) (by decide) (by decide) (by decide)
  have z11 : begF p 11 = 0 := bz 11 (by decide) (by decide) (by decide) (by decide) (by decide) (by decide)
  refine ⟨fun j hj => ?_, fun k hk => ?_, fun j hj => ?_, fun j hj => ?_⟩
  · rcases (show j = 0 ∨ j = 1 ∨ j = 2 ∨ j = 3 ∨ j = 4 ∨ j = 7 ∨ (j = 5 ∨ j = 6 ∨ 8 ≤ j) by omega) with z | z | z | z | z | z | z
    · subst z; rw [b0]; rfl
    · subst z; rw [b1]; rfl
    · subst z; rw [b2]; rfl
    · subst z; rw [b3]; rfl
    · subst z; rw [bz 4 (by decide) (by decide) (by decide) (by decide) (by decide) (by decide)]; rfl
    · subst z; rw [b7]; rfl
    · rw [bz j (by omega) (by omega) (by omega) (by omega) (by omega) (by omega)]
      unfold begH
      rw [if_neg (by omega), if_neg (by omega), if_pos hj]
  · unfold pn at hk; rw [z9] at hk; exact absurd hk (by decide +revert)
  · rw [z10] at hj; exact absurd hj (by show ¬ j < 0; omega)
  · unfold rn at hj; rw [z11] at hj; exact absurd hj (by show ¬ j < 0; omega)
def ldH (t h : Page) : Page := upd (upd (upd (upd (begH h) 0 (latF t)) 1 (nI (num t 4 3))) 2 (nI (num t 7 2))) 7 (nI (num t 9 4))
theorem PEq_ldH {t h p : Page} : PEq (ldH t h) (ldG t p) := PEq_upd (PEq_upd (PEq_upd (PEq_upd PEq_begH (by decide)) (by decide)) (by decide)) (by decide)
/-- the class loads -/
theorem s_load {n : Nat} {t : Page} {M : Mem} {Q : Int32 → Mem → Prop} {EQ : String → Mem → Prop} (hn : n ≤ 100) (e1 : M 109 1 = nI n) (e2 : M 110 = t) (kE : ∀ s, errAt t n s → EQ "java/lang/IllegalStateException" M)
    (kN : upTo t n → compl n → ∀ M' h, St M' 0 (ldN t (ldH t h) ((n - 13) / 4)) → (∀ c, 6 ≤ c → c ≠ 113 → c ≠ 116 → M' c = M c) → M' 113 1 = M 113 1 → M' 113 2 = 0 → M' 116 0 = 0 → M' 116 1 = 0 → Q (nI ((n - 13) / 4)) M') : wp_X4_load M Q EQ := by
  simp only [wp_X4_load, wp_X3_latitude, wp_X3_turnsInHour, wp_X3_drag, wp_X3_height, wp_X3_pins, wp_X3_placeOfPin, wp_X0_forget, forall_eq]
  refine s_firstError hn e1 e2 (fun s hs => ⟨fun z => absurd z (m9 s (by have := hs.1; omega)), fun _ => kE s hs⟩) (fun u cm => ⟨fun _ => ?_, fun z => absurd rfl z⟩)
  have n13 := cm.1
  have dg13 : ∀ a m, 2 ≤ a → a + m ≤ 13 → ∀ i, i < m → isD t (a + i) := fun a m h1 h2 i hi => u.dig (by omega) (by omega) (by omega)
  refine s_begin (fun M1 top pg f1 => ?_)
  have f : ∀ c, 6 ≤ c → M1 c = M c := fun c hc => f1 c (by omega)
  have s0 : St M1 0 (begH (pv M1 0)) := ⟨funext pg, by rw [top]; decide, by rw [top]; decide⟩
  generalize pv M1 0 = H at s0 pg
  have p20 : (n - 13) / 4 ≤ 20 ∧ 13 + 4 * ((n - 13) / 4) = n := by
    have a := cm.2
    refine ⟨?_, by omega⟩
    by_cases c : n ≤ 93
    · omega
    · obtain ⟨-, -, -, -, -, x, -⟩ := u 93 (by omega)
      omega
  have m109 : M1 109 1 = nI n := by rw [f 109 (by decide)]; exact e1
  have m110 : M1 110 = t := by rw [f 110 (by decide)]; exact e2
  refine s_num (a := 2) (m := 2) (e := 4) hn (by decide) (by decide) (by omega) m109 m110 (dg13 2 2 (by decide) (by decide)) ?_
  rw [m110]
  have k9 : ldH t H 9 = 0 := by
    have := (PEq_ldH (t := t) (h := H) (p := H)).lo (j := 9) (by decide)
    rw [this]; exact ldG_9 _ _
  refine ⟨fun z => ?_, fun z => ?_⟩
  all_goals
    first
      | rw [show -(nI (num t 2 2)) = latF t from by unfold latF; rw [if_pos z]]
      | rw [show nI (num t 2 2) = latF t from by unfold latF; rw [if_neg z]]
    have s1 := s0.set' (k := 0) (by decide) (latF t)
    refine s_num (a := 4) (m := 3) (e := 7) hn (by decide) (by decide) (by omega) (by rw [mup_ne (by decide)]; exact m109) (by rw [mup_ne (by decide)]; exact m110) (dg13 4 3 (by decide) (by decide)) ?_
    have s2 := s1.set' (k := 1) (by decide) (nI (num t 4 3))
    refine s_num (a := 7) (m := 2) (e := 9) hn (by decide) (by decide) (by omega) (by rw [mup_ne (by decide), mup_ne (by decide)]; exact m109) (by rw [mup_ne (by decide), mup_ne (by decide)]; exact m110) (dg13 7 2 (by decide) (by decide)) ?_
    have s3 := s2.set' (k := 2) (by decide) (nI (num t 7 2))
    refine s_num (a := 9) (m := 4) (e := 13) hn (by decide) (by decide) (by omega) (by rw [mup_ne (by decide), mup_ne (by decide), mup_ne (by decide)]; exact m109) (by rw [mup_ne (by decide), mup_ne (by decide), mup_ne (by decide)]; exact m110) (dg13 9 4 (by decide) (by decide)) ?_
    have s4 := s3.f (k := 3) (nI (num t 9 4)) (by decide) (by decide)
    have fm : ∀ c, 6 ≤ c → mup (mup (mup (mup M1 (6 * 0 + 1) 0 (latF t)) (6 * 0 + 1) 1 (nI (num t 4 3))) (6 * 0 + 1) 2 (nI (num t 7 2))) (6 * 0) 3 (nI (num t 9 4)) c = M c := fun c hc => by
      rw [mup_ne (by omega), mup_ne (by omega), mup_ne (by omega), mup_ne (by omega), f c hc]
    have s5 : St (mup (mup (mup (mup M1 (6 * 0 + 1) 0 (latF t)) (6 * 0 + 1) 1 (nI (num t 4 3))) (6 * 0 + 1) 2 (nI (num t 7 2))) (6 * 0) 3 (nI (num t 9 4))) 0 (ldH t H) := s4
    generalize mup (mup (mup (mup M1 (6 * 0 + 1) 0 (latF t)) (6 * 0 + 1) 1 (nI (num t 4 3))) (6 * 0 + 1) 2 (nI (num t 7 2))) (6 * 0) 3 (nI (num t 9 4)) = M4 at fm s5
    have ep : (M4 109 1 - 13) / 4 = nI ((n - 13) / 4) := by
      rw [fm 109 (by decide), e1]
      have b : nI n - 13 = nI (n - 13) := by rw [show (13 : Int32) = nI 13 from rfl, Int32.sub_eq_iff_eq_add, nI_addn]; congr 1; omega
      rw [b]; exact nI_div (b := 4) (by omega) (by decide) (by decide)
    rw [ep]
    refine ⟨fun w M' => ∃ k, k ≤ (n - 13) / 4 ∧ w = nI k ∧ St M' 0 (ldN t (ldH t H) k) ∧ ∀ c, 6 ≤ c → M' c = M c, fun w _ => 1000 - w.toNatClampNeg, ⟨0, Nat.zero_le _, rfl, s5, fm⟩, ?_⟩
    rintro w M' ⟨k, hk, rfl, sk, fk⟩
    rw [nI_leI (by omega) (by omega)]
    refine ⟨fun c => ?_, fun c => ?_⟩
    · have : k = (n - 13) / 4 := by omega
      subst this
      refine ⟨fun w M'' => ∃ j, j ≤ 2 ∧ w = nI j ∧ (∀ c, c ≠ 113 → c ≠ 116 → M'' c = M' c) ∧ M'' 113 1 = M 113 1 ∧ M'' 113 2 = 0 ∧ ∀ x, x < j → M'' 116 x = 0, fun w _ => 10 - w.toNatClampNeg, ⟨0, by decide, rfl, fun c h1 h2 => mup_ne h1, by rw [mup_self, updE, if_neg (by decide), fk 113 (by decide)], by rw [mup_self, updE, if_pos rfl], fun x hx => absurd hx (by omega)⟩, ?_⟩
      rintro w M'' ⟨j, hj, rfl, g1, g2, g3, g4⟩
      rw [show (2 : Int32) = nI 2 from rfl, nI_leI (by omega) (by omega), nI_clamp (by omega)]
      refine ⟨fun c => ?_, fun c => ⟨vp_in_nI (by omega) (by decide), ⟨j + 1, by omega, nI_1 j, fun c h1 h2 => by rw [mup_ne h2]; exact g1 c h1 h2, by rw [mup_ne (by decide)]; exact g2, by rw [mup_ne (by decide)]; exact g3, fun x hx => ?_⟩, mu_lt (by omega) (by decide)⟩⟩
      · have : j = 2 := by omega
        subst this
        have sF := sk.frame' (M' := M'') (fun r hr => g1 _ (by omega) (by omega))
        have eQ : M'' (6 * 0) 5 = nI ((n - 13) / 4) := by
          rw [sF.pins]; exact (ld_facts (t := t) k9 _ p20.1).1
        rw [eQ]
        exact kN u cm M'' H sF (fun c h1 h2 h3 => by rw [g1 c h2 h3, fk c h1]) g2 g3 (g4 0 (by decide)) (g4 1 (by decide))
      · rw [mup_self, updE]
        split
        · rfl
        · exact g4 x (by omega)
    · refine s_deg hn (by omega) (by rw [fk 109 (by decide)]; exact e1) (by rw [fk 110 (by decide)]; exact e2) (fun i hi => u i (by omega)) ?_
      have e60 : (60 : Int32) * nI (deg t k) = nI (60 * deg t k) := nI_mul 60 _
      rw [e60]
      have l9 := (ld_facts (t := t) k9 k (by omega)).1
      refine s_putPin sk (by rw [l9, nI_toInt (by omega)]; omega) (fun M5 s6 f6 => ⟨⟨k + 1, by omega, nI_1 k, s6, fun c hc => by rw [f6 c (by omega), fk c hc]⟩, mu_lt (by omega) (by decide)⟩)

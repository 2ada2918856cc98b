theorem St.hit {M : Mem} {i : Nat} {h : Page} (s : St M i h) {t n y : Nat} (ht : M (6 * i) 9 = nI t) (ht2 : t < 20) (hn : n < 20) (hy : y < 3) : M (6 * i + 4) (3 * ((t + 20 - n) % 20) + y) = h (92 + 3 * n + y) := by
  rw [s.at, pv, if_neg (by omega), if_neg (by omega), if_neg (by omega), if_neg (by omega), if_neg (by omega), if_pos (by omega), ht, nI_clamp (by omega)]
  congr 1
  rw [show (92 + 3 * n + y - 92) / 3 = n by omega, show (92 + 3 * n + y - 92) % 3 = y by omega]
theorem St.top {M : Mem} {i : Nat} {h : Page} (s : St M i h) : ∃ t, t < 20 ∧ M (6 * i) 9 = nI t :=
  ⟨_, by have := s.2; omega, nI_of_toInt s.2.1⟩
/-- hit -/
theorem c_hit {x y : Int32} {M : Mem} {V1 V2 : Prop} {K : Mem → Prop} (I : LInv M) (hv1 : V1) (hv2 : V2) (k : ∀ M', LInv M' → K M') :
    wp_L_hit x y M (fun r7 M6 => V1 ∧ V2 ∧ wp_X5_hit x y M6 (Tail r7 K)) := by
  obtain ⟨⟨h, s, e, v⟩, -⟩ := id I
  obtain ⟨-, -, -, -, -, -, -, -, -, v10, -⟩ := id v
  have e10 : h 10 = M 120 10 := e.lo (by decide)
  have bad1 : ¬ (0 ≤ x.toInt ∧ 0 ≤ y.toInt ∧ y.toInt ≤ 2) → V1 ∧ V2 ∧ wp_X5_hit x y M (Tail 1 K) := fun c => by
    refine ⟨hv1, hv2, ?_⟩
    simp only [wp_X5_hit, forall_eq]
    rw [s_lt0]
    refine ⟨fun c2 => s5_ref1 ⟨fun z => absurd z (by decide), fun _ => tail_ref I (by decide) k⟩, fun c2 => s5_in32 0 2 rfl rfl (fun a b => absurd ⟨by omega, a, b⟩ c) (fun _ => ⟨fun _ => s5_ref1 ⟨fun z => absurd z (by decide), fun _ => tail_ref I (by decide) k⟩, fun z => absurd rfl z⟩)⟩
  have good : ∀ n y', y' < 3 → x = nI n → n < 2 ^ 31 → y = nI y' → V1 ∧ V2 ∧ wp_X5_hit x y (mup M 126 0 (if (M 120 10).toInt ≤ n then -9 else M 120 (92 + 3 * n + y'))) (Tail 0 K) := fun n y' hy' hx hn hy => by
    refine ⟨hv1, hv2, ?_⟩
    have m2 : ∀ a b, mup (mup M 126 0 a) 117 0 b 120 = M 120 := fun a b => by rw [mup_ne (by omega), mup_ne (by omega)]
    subst hx
    subst hy
    simp only [wp_X5_hit, forall_eq]
    rw [s_lt0, nI_toInt (by omega)]
    refine ⟨fun c2 => absurd c2 (by omega), fun c2 => s5_in32 0 2 rfl rfl (fun a b => ⟨fun z => absurd z (by decide), fun _ => s5_ref0 ⟨fun _ => ?_, fun z => absurd rfl z⟩⟩) (fun c3 => absurd (by rw [nI_toInt (by omega)]; omega) c3)⟩
    rw [m2, i32_le, nI_toInt (by omega)]
    refine ⟨fun c3 => ?_, fun c3 => ?_⟩
    · rw [if_pos c3]; exact tail_q I k
    · rw [if_neg c3, nI_lit3, show (92 : Int32) = nI 92 from rfl, nI_addn, nI_addn, nI_clamp (by omega)]
      exact ⟨vp212 (by omega), tail_q I k⟩
  simp only [wp_L_hit, wp_X4_hit, forall_eq]
  rw [s_lt0, s_lt0, i32_le, d2', i32_lt, s.hits, e10]
  refine ⟨fun c => ⟨fun _ => bad1 (by omega), trivial⟩, fun c => ⟨fun c2 => ⟨fun _ => bad1 (by omega), trivial⟩, fun c2 => ⟨fun c3 => ?_, fun c3 => ⟨fun _ => bad1 (by omega), trivial⟩⟩⟩⟩
  have hx : x = nI x.toInt.toNat := nI_of_toInt (by omega)
  have hx2 : x.toInt.toNat < 2 ^ 31 := by have := i32_hi x; omega
  have hy : y = nI y.toInt.toNat := nI_of_toInt (by omega)
  have hy' : y.toInt.toNat < 3 := by omega
  have G := good _ _ hy' hx hx2 hy
  have en : x.toInt = (x.toInt.toNat : Int) := by omega
  rw [en]
  generalize y.toInt.toNat = y' at hy hy' G
  generalize x.toInt.toNat = n at hx hx2 G
  refine ⟨fun c4 => ?_, fun c4 => ?_⟩
  · rw [if_neg (by omega)] at G
    obtain ⟨t, ht, et⟩ := s.top
    rw [hx, hy] at G ⊢
    refine s_rowOfHit et ht (by omega) ?_
    rw [nI_lit3, nI_addn, nI_clamp (by omega), s.hit et ht (by omega) hy']
    have := e.2.2.1 (3 * n + y') (by omega)
    rw [← Nat.add_assoc] at this
    rw [this]
    exact ⟨vp_in_nI (by omega) (by decide), G⟩
  · rw [if_pos (by omega)] at G
    exact G
theorem s_fits {x0 x1 : Int32} {M : Mem} {Q : Int32 → Mem → Prop} (k1 : ∀ w, x0 = nI w → SetOK w x1 → Q 1 M) (k0 : (∀ w, w < 5 → x0 = nI w → ¬ SetOK w x1) → Q 0 M) : wp_X4_settingFits x0 x1 M Q := by
  simp only [wp_X4_settingFits, forall_eq]
  have d5 : (5 : Int32).toInt = 5 := rfl
  rw [s_lt0, i32_lt, d5]
  refine ⟨fun c => k0 (fun w hw hx => ?_), fun c => ⟨fun c2 => ?_, fun c2 => k0 (fun w hw hx => ?_)⟩⟩
  · rw [hx, nI_toInt (by omega)] at c; omega
  · have hx : x0 = nI x0.toInt.toNat := nI_of_toInt (by omega)
    have hw : x0.toInt.toNat < 5 := by omega
    generalize x0.toInt.toNat = w at hx hw
    subst hx
    rw [nI_clamp (by omega), i32_lt, i32_lt]
    have key : ((fLEAST w).toInt ≤ x1.toInt ∧ x1.toInt ≤ (fMOST w).toInt) ↔ SetOK w x1 := by
      unfold SetOK
      rcases (show w = 0 ∨ w = 1 ∨ w = 2 ∨ w = 3 ∨ w = 4 by omega) with z | z | z | z | z <;> subst z
      · rw [show (fLEAST 0).toInt = -90 from rfl, show (fMOST 0).toInt = 90 from rfl]; omega
      · rw [show (fLEAST 1).toInt = 60 from rfl, show (fMOST 1).toInt = 900 from rfl]; omega
      · rw [show (fLEAST 2).toInt = 0 from rfl, show (fMOST 2).toInt = 99 from rfl]; omega
      · rw [show (fLEAST 3).toInt = 1 from rfl, show (fMOST 3).toInt = 9999 from rfl]; omega
      · rw [show (fLEAST 4).toInt = 0 from rfl, show (fMOST 4).toInt = 99 from rfl]; omega
    have no : ¬ SetOK w x1 → Q 0 M := fun c => k0 (fun w' hw' e => by
      have : w = w' := by
        have := congrArg Int32.toInt e
        rw [nI_toInt (by omega), nI_toInt (by omega)] at this
        omega
      subst this; exact c)
    refine ⟨vp_in_nI hw (by decide), fun c3 => no (fun z => ?_), fun c3 => ⟨vp_in_nI hw (by decide), fun c4 => no (fun z => ?_), fun c4 => k1 w rfl (key.mp (by omega))⟩⟩
    · have := key.mpr z; omega
    · have := key.mpr z; omega
  · rw [hx, nI_toInt (by omega)] at c2; omega
theorem s5_fits {x0 x1 : Int32} {M : Mem} {Q : Int32 → Mem → Prop} (k1 : ∀ w, x0 = nI w → SetOK w x1 → Q 1 M) (k0 : (∀ w, w < 5 → x0 = nI w → ¬ SetOK w x1) → Q 0 M) : wp_X5_isSetting x0 x1 M Q := by
  simp only [wp_X5_isSetting, forall_eq]
  have no : ∀ w, w < 5 → x0 = nI w → ¬ SetOK w x1 → Q 0 M := fun w hw e c => k0 (fun w' hw' e' => by
      have : w = w' := by
        rw [e] at e'
        have := congrArg Int32.toInt e'
        rw [nI_toInt (by omega), nI_toInt (by omega)] at this
        omega
      subst this; exact c)
  refine ⟨fun c => ?_, fun c0 => ⟨fun c => ?_, fun c1 => ⟨fun c => ?_, fun c2 => ⟨fun c => ⟨fun z => absurd c z, fun _ => ?_⟩, fun c3 => ⟨fun c => ?_, fun c4 => ⟨fun _ => k0 (fun w hw e => ?_), fun z => absurd z c3⟩⟩⟩⟩⟩⟩
  · refine s5_in32 (-90) 90 rfl rfl (fun a b => ⟨rfl, k1 0 c (by unfold SetOK; omega)⟩) (fun z => ⟨rfl, no 0 (by decide) c (by unfold SetOK; omega)⟩)
  · refine s5_in32 60 900 rfl rfl (fun a b => ⟨rfl, k1 1 c (by unfold SetOK; omega)⟩) (fun z => ⟨rfl, no 1 (by decide) c (by unfold SetOK; omega)⟩)
  · refine s5_in32 0 99 rfl rfl (fun a b => ⟨rfl, k1 2 c (by unfold SetOK; omega)⟩) (fun z => ⟨rfl, no 2 (by decide) c (by unfold SetOK; omega)⟩)
  · refine s5_in32 1 9999 rfl rfl (fun a b => ⟨fun z => absurd z (by decide), fun _ => k1 3 c (by unfold SetOK; omega)⟩) (fun z => ⟨fun _ => no 3 (by decide) c (by unfold SetOK; omega), fun z => absurd rfl z⟩)
  · refine s5_in32 0 99 rfl rfl (fun a b => ⟨rfl, k1 4 c (by unfold SetOK; omega)⟩) (fun z => ⟨rfl, no 4 (by decide) c (by unfold SetOK; omega)⟩)
  · rcases (show w = 0 ∨ w = 1 ∨ w = 2 ∨ w = 3 ∨ w = 4 by omega) with z | z | z | z | z <;> subst z
    · exact absurd e c0
    · exact absurd e c1
    · exact absurd e c2
    · exact absurd e c3
    · exact absurd e c4
/-- sine -/
theorem c_sine {x : Int32} {M : Mem} {V : Prop} {K : Mem → Prop} (I : LInv M) (hv : V) (k : ∀ M', LInv M' → K M') :
    wp_L_sine x M (fun r7 M6 => V ∧ wp_X5_sine x M6 (Tail r7 K)) := by
  simp only [wp_L_sine, wp_X4_sine, forall_eq]
  refine s_fits (fun w hw ok => ⟨fun _ => ?_, fun z => absurd z (by decide)⟩) (fun no => ⟨fun z => absurd rfl z, fun _ => ⟨fun _ => ⟨hv, ?_⟩, trivial⟩⟩)
  · have w0 : w = 0 := by
      have h1 := ok.1
      have := congrArg Int32.toInt hw
      rw [i0, nI_toInt (by omega)] at this
      omega
    subst w0
    obtain ⟨a, b⟩ := ok.2.1 rfl
    refine s_sineOf a b ⟨hv, ?_⟩
    simp only [wp_X5_sine, forall_eq]
    refine s5_in32 (-90) 90 rfl rfl (fun _ _ => ⟨fun z => absurd z (by decide), fun _ => s5_ref0 ⟨fun _ => s5_sineOf (I.out.ref).2.2.2.2 a b (tail_q I k), fun z => absurd rfl z⟩⟩) (fun c => absurd ⟨a, b⟩ c)
  · have no0 := no 0 (by decide) rfl
    have : ¬ (-90 ≤ x.toInt ∧ x.toInt ≤ 90) := fun c => no0 (by unfold SetOK; omega)
    simp only [wp_X5_sine, forall_eq]
    refine s5_in32 (-90) 90 rfl rfl (fun a b => absurd ⟨a, b⟩ this) (fun _ => ⟨fun _ => s5_ref1 ⟨fun z => absurd z (by decide), fun _ => tail_ref I (by decide) k⟩, fun z => absurd rfl z⟩)

theorem FrM.of {M M' : Mem} (h : M' = M) : FrM M M' 1 := fun c _ _ => by rw [h]
/-- the class's command -/
theorem s_does {n : Nat} (hn : n < 100000) {g : Page} {M : Mem} {Q : Int32 → Mem → Prop} (s : St M 1 g) (v : Val g) (k : ∀ M', St M' 1 (doF g (n / 10000) (n / 1000 % 10) (n % 1000)).1 → FrM M M' 1 → Q (b01 (doF g (n / 10000) (n / 1000 % 10) (n % 1000)).2) M') : wp_X4_commandSucceeds (nI n) M Q := by
  have v9 := v.pins.1
  have eq : ∀ x y : Nat, x < 2147483648 → y < 2147483648 → (nI x = nI y ↔ x = y) := fun x y hx hy => by rw [i32_eq, nI_toInt hx, nI_toInt hy]; omega
  simp only [wp_X4_commandSucceeds, forall_eq]
  have ea : nI n / 10000 = nI (n / 10000) := nI_div (b := 10000) (by omega) (by decide) (by decide)
  have eb : nI n / 1000 - nI n / 1000 / 10 * 10 = nI (n / 1000 % 10) := by
    have : nI n / 1000 = nI (n / 1000) := nI_div (b := 1000) (by omega) (by decide) (by decide)
    rw [this]; exact nI_mod (b := 10) (by omega) (by decide) (by decide)
  have ec : nI n - nI n / 1000 * 1000 = nI (n % 1000) := nI_mod (b := 1000) (by omega) (by decide) (by decide)
  rw [ea, eb, ec]
  have ha : n / 10000 < 10 := by omega
  have hb : n / 1000 % 10 < 10 := by omega
  have hc : n % 1000 < 1000 := by omega
  generalize n / 10000 = a at ha k
  generalize n / 1000 % 10 = b at hb k
  generalize n % 1000 = c at hc k
  have q : ∀ y : Nat, y < 100 → (nI a = nI y ↔ a = y) := fun y hy => eq a y (by omega) (by omega)
  have zb : nI b = 0 ↔ b = 0 := eq b 0 (by omega) (by omega)
  have zc : nI c = 0 ↔ c = 0 := eq c 0 (by omega) (by omega)
  have nc : (nI c).toInt = c := nI_toInt (by omega)
  have d600 : (600 : Int32).toInt = 600 := rfl
  have dm6 : (-600 : Int32).toInt = -600 := rfl
  have no : ∀ {x : Bool} {p : Page}, x = false → (ifB x p g) = (g, false) := fun h => by unfold ifB; rw [h]; rfl
  have yes : ∀ {x : Bool} {p : Page}, x = true → (ifB x p g) = (p, true) := fun h => by unfold ifB; rw [h]; rfl
  rw [show (1 : Int32) = nI 1 from rfl, show (2 : Int32) = nI 2 from rfl, show (3 : Int32) = nI 3 from rfl, show (4 : Int32) = nI 4 from rfl, show (5 : Int32) = nI 5 from rfl, show (6 : Int32) = nI 6 from rfl, show (7 : Int32) = nI 7 from rfl, show (8 : Int32) = nI 8 from rfl, show (9 : Int32) = nI 9 from rfl]
  rw [q 1 (by decide), q 2 (by decide), q 3 (by decide), q 4 (by decide), q 5 (by decide), q 6 (by decide), q 7 (by decide), q 8 (by decide), q 9 (by decide), zb, zc, nI_ltI (by omega) (by omega)]
  unfold doF at k
  refine ⟨fun h1 => ?_, fun h1 => ⟨fun h2 => ?_, fun h2 => ⟨fun h3 => ?_, fun h3 => ⟨fun h4 => ?_, fun h4 => ⟨fun h5 => ?_, fun h5 => ⟨fun h6 => ?_, fun h6 => ⟨fun h7 => ?_, fun h7 => ⟨fun h8 => ?_, fun h8 => ⟨fun h9 => ?_, fun h9 => ?_⟩⟩⟩⟩⟩⟩⟩⟩⟩
  · rw [if_pos h1] at k
    refine ⟨fun hb0 => ?_, fun hb0 => ?_⟩
    · rw [no (by simp [hb0])] at k; exact k _ s FrM.rfl'
    · simp only [wp_X4_trialSwings, wp_X4_turnsFit, forall_eq]
      rw [i32_lt, i32_lt, i1, d500, nc]
      refine ⟨fun z => ⟨fun y => absurd trivial y, fun _ => ⟨fun _ => ?_, fun y => absurd trivial y⟩⟩, fun z => ⟨fun z2 => ⟨fun y => absurd trivial y, fun _ => ⟨fun _ => ?_, fun y => absurd trivial y⟩⟩, fun z2 => ⟨fun _ => s_beginM (by decide) s v (fun M1 s1 m1 f1 => s_turns (by decide) (by omega) s1 v m1 (fun M2 s2 m2 f2 => ⟨fun y => absurd y (by decide), fun _ => ?_⟩)), fun y => absurd y (by decide)⟩⟩⟩
      · rw [no (by simp; omega)] at k; exact k _ s FrM.rfl'
      · rw [no (by simp; omega)] at k; exact k _ s FrM.rfl'
      · rw [yes (by simp; omega)] at k; exact k _ s2 (f1.trans f2)
  · rw [if_neg h1, if_pos h2] at k
    simp only [wp_X4_trialSets, forall_eq]
    refine s_fits (fun w hw ok => ⟨fun _ => ?_, fun z => absurd z (by decide)⟩) (fun nok => ⟨fun y => absurd rfl y, fun _ => ⟨rfl, ?_⟩⟩)
    · have : b = w := (eq b w (by omega) (by have := ok.1; omega)).mp hw
      subst this
      rw [yes ((setB_iff hc).mpr ok)] at k
      exact s_setting ok.1 s (fun M1 s1 f1 => ⟨rfl, k _ s1 f1.M⟩)
    · rw [no ?_] at k
      · exact k _ s FrM.rfl'
      · by_cases z : setB b c = true
        · exact absurd ((setB_iff hc).mp z) (nok b ((setB_iff hc).mp z).1 rfl)
        · exact Bool.eq_false_iff.mpr z
  · rw [if_neg h1, if_neg h2, if_pos h3] at k
    refine ⟨fun hb0 => ?_, fun hb0 => ?_⟩
    · rw [no (by simp [hb0])] at k; exact k _ s FrM.rfl'
    · simp only [wp_X4_trialIsPushed, wp_X4_pushFits, forall_eq]
      rw [i32_lt, i32_lt, i1, i9999, nc]
      refine ⟨fun z => ⟨fun y => absurd trivial y, fun _ => ⟨fun _ => ?_, fun y => absurd trivial y⟩⟩, fun z => ⟨fun z2 => absurd z2 (by omega), fun z2 => ⟨fun _ => s_gain s (fun M1 s1 f1 => ⟨fun y => absurd y (by decide), fun _ => ?_⟩), fun y => absurd y (by decide)⟩⟩⟩
      · rw [no (by simp; omega)] at k; exact k _ s FrM.rfl'
      · rw [yes (by simp; omega)] at k; exact k _ s1 f1.M
  · rw [if_neg h1, if_neg h2, if_neg h3, if_pos h4] at k
    refine ⟨fun hb0 => ?_, fun hb0 => ⟨fun z => ?_, fun z => ?_⟩⟩
    · rw [no (by simp; omega)] at k; exact k _ s FrM.rfl'
    · simp only [wp_X4_trialIsNudged, wp_X4_nudgeFits, forall_eq]
      rw [i32_lt, i32_lt, d600, dm6, neg_nI (by omega)]
      refine ⟨fun z1 => ⟨fun y => absurd trivial y, fun _ => ⟨fun _ => ?_, fun y => absurd trivial y⟩⟩, fun z1 => ⟨fun z2 => absurd z2 (by omega), fun z2 => ⟨fun _ => s_aside s (fun M1 s1 f1 => ⟨fun y => absurd y (by decide), fun _ => ?_⟩), fun y => absurd y (by decide)⟩⟩⟩
      · rw [no (by simp; omega)] at k; exact k _ s FrM.rfl'
      · rw [yes (by simp; omega), if_neg z] at k; exact k _ s1 f1.M
    · simp only [wp_X4_trialIsNudged, wp_X4_nudgeFits, forall_eq]
      rw [i32_lt, i32_lt, d600, dm6, nc]
      refine ⟨fun z1 => absurd z1 (by omega), fun z1 => ⟨fun z2 => ⟨fun y => absurd trivial y, fun _ => ⟨fun _ => ?_, fun y => absurd trivial y⟩⟩, fun z2 => ⟨fun _ => s_aside s (fun M1 s1 f1 => ⟨fun y => absurd y (by decide), fun _ => ?_⟩), fun y => absurd y (by decide)⟩⟩⟩
      · rw [no (by simp; omega)] at k; exact k _ s FrM.rfl'
      · rw [yes (by simp; omega), if_pos z] at k; exact k _ s1 f1.M
  · rw [if_neg h1, if_neg h2, if_neg h3, if_neg h4, if_pos h5] at k
    refine ⟨fun hb0 => ?_, fun hb0 => ⟨fun hc0 => ?_, fun hc0 => ?_⟩⟩
    · rw [no (by simp [hb0])] at k; exact k _ s FrM.rfl'
    · rw [no (by simp; omega)] at k; exact k _ s FrM.rfl'
    · rw [yes (by simp; omega)] at k
      unfold wp_X4_trialRaises
      exact s_standAll s v9 (fun M1 s1 f1 => ⟨fun y => absurd y (by decide), fun _ => k _ s1 f1.M⟩)
  · rw [if_neg h1, if_neg h2, if_neg h3, if_neg h4, if_neg h5, if_pos h6] at k
    refine ⟨fun hb0 => ?_, fun hb0 => s_standing s v9 ⟨fun z => ?_, fun z => ?_⟩⟩
    · rw [no (by simp [hb0])] at k; exact k _ s FrM.rfl'
    · rw [no (by simp [Ne.symm z])] at k; exact k _ s FrM.rfl'
    · rw [yes (by simp [z, hb0])] at k; exact k _ s FrM.rfl'
  · rw [if_neg h1, if_neg h2, if_neg h3, if_neg h4, if_neg h5, if_neg h6, if_pos h7] at k
    rw [show (1000 : Int32) = nI 1000 from rfl, nI_mul, nI_addn, s.height, Nat.mul_comm b 1000]
    refine ⟨fun z => ?_, fun z => ?_⟩
    · rw [no (by simp [z])] at k; exact k _ s FrM.rfl'
    · rw [yes (by simp [z])] at k; exact k _ s FrM.rfl'
  · rw [if_neg h1, if_neg h2, if_neg h3, if_neg h4, if_neg h5, if_neg h6, if_neg h7, if_pos h8] at k
    rw [s.dir]
    refine ⟨fun hb0 => ?_, fun hb0 => ⟨fun z => ?_, fun z => ?_⟩⟩
    · rw [no (by simp [hb0])] at k; exact k _ s FrM.rfl'
    · rw [no (by simp [z])] at k; exact k _ s FrM.rfl'
    · rw [yes (by simp [z, hb0])] at k; exact k _ s FrM.rfl'
  · rw [if_neg h1, if_neg h2, if_neg h3, if_neg h4, if_neg h5, if_neg h6, if_neg h7, if_neg h8, if_pos h9] at k
    rw [s.hits]
    refine ⟨fun hb0 => ?_, fun hb0 => ⟨fun z => ?_, fun z => ?_⟩⟩
    · rw [no (by simp [hb0])] at k; exact k _ s FrM.rfl'
    · rw [no (by simp [Ne.symm z])] at k; exact k _ s FrM.rfl'
    · rw [yes (by simp [z, hb0])] at k; exact k _ s FrM.rfl'
  · rw [if_neg h1, if_neg h2, if_neg h3, if_neg h4, if_neg h5, if_neg h6, if_neg h7, if_neg h8, if_neg h9] at k
    exact k _ s FrM.rfl'

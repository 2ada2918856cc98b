/-! SCRIPTS -/
theorem nI_div {a b : Nat} (ha : a < 2147483648) (hb : 1 < b) (hb2 : b < 2147483648) : nI a / nI b = nI (a / b) := by
  rw [i32_eq, i32_divp (nI b) (by rw [nI_toInt hb2]; omega) (by rw [nI_toInt ha]; omega), nI_toInt ha, nI_toInt hb2, nI_toInt (by have := Nat.div_le_self a b; omega)]
  exact (Int.natCast_ediv a b).symm
theorem nI_mod {a b : Nat} (ha : a < 2147483648) (hb : 1 < b) (hb2 : b < 2147483648) : nI a - nI a / nI b * nI b = nI (a % b) := by
  rw [nI_div ha hb hb2, nI_mul, Int32.sub_eq_iff_eq_add, nI_addn]
  congr 1
  have := Nat.mod_add_div a b
  rw [Nat.mul_comm] at this
  omega
def setB (w : Nat) (x : Nat) : Bool := decide (w < 5) && decide ((fLEAST w).toInt ≤ x) && decide ((x : Int) ≤ (fMOST w).toInt)
theorem setB_iff {w x : Nat} (hx : x < 1000) : setB w x = true ↔ SetOK w (nI x) := by
  unfold setB SetOK
  rw [Bool.and_eq_true, Bool.and_eq_true, decide_eq_true_iff, decide_eq_true_iff, decide_eq_true_iff, nI_toInt (by omega)]
  by_cases h : w < 5
  · rcases (show w = 0 ∨ w = 1 ∨ w = 2 ∨ w = 3 ∨ w = 4 by omega) with z | z | z | z | z <;> subst z
    · rw [show (fLEAST 0).toInt = -90 from rfl, show (fMOST 0).toInt = 90 from rfl]; omega
    · rw [show (fLEAST 1).toInt = 60 from rfl, show (fMOST 1).toInt = 900 from rfl]; omega
    · rw [show (fLEAST 2).toInt = 0 from rfl, show (fMOST 2).toInt = 99 from rfl]; omega
    · rw [show (fLEAST 3).toInt = 1 from rfl, show (fMOST 3).toInt = 9999 from rfl]; omega
    · rw [show (fLEAST 4).toInt = 0 from rfl, show (fMOST 4).toInt = 99 from rfl]; omega
  · exact ⟨fun z => absurd z.1.1 h, fun z => absurd z.1 h⟩
def ifB (b : Bool) (p g : Page) : Page × Bool := if b = true then (p, true) else (g, false)
def doF (g : Page) (a b c : Nat) : Page × Bool :=
  if a = 1 then ifB (decide (b = 0) && decide (1 ≤ c) && decide (c ≤ 500)) (turnN c (g, 0, -9)).1 g
  else if a = 2 then ifB (setB b c) (setF g b (nI c)) g
  else if a = 3 then ifB (decide (b = 0) && decide (1 ≤ c)) (gainF g (nI c)) g
  else if a = 4 then ifB (decide (b ≤ 1) && decide (c ≤ 600)) (nudgeF g (if b = 0 then nI c else -(nI c))) g
  else if a = 5 then ifB (decide (b = 0) && decide (c = 0)) (raiseF g) g
  else if a = 6 then ifB (decide (b = 0) && decide (standF g = nI c)) g g
  else if a = 7 then ifB (decide (¬ g 7 < nI (1000 * b + c))) g g
  else if a = 8 then ifB (decide (b = 0) && decide (g 5 / 60 = nI c)) g g
  else if a = 9 then ifB (decide (b = 0) && decide (g 10 = nI c)) g g
  else (g, false)
theorem Val_ifB {b : Bool} {p g : Page} (h : b = true → Val p) (hg : Val g) : Val (ifB b p g).1 := by
  unfold ifB
  split
  · rename_i c; exact h c
  · exact hg
theorem Val_do {g : Page} (v : Val g) (a b c : Nat) (hc : c < 1000) : Val (doF g a b c).1 := by
  have nc : (nI c).toInt = c := nI_toInt (by omega)
  unfold doF
  split
  · exact Val_ifB (fun _ => Val_turnN c (s := (g, 0, -9)) v) v
  · split
    · exact Val_ifB (fun z => Val_set v ((setB_iff hc).mp z)) v
    · split
      · exact Val_ifB (fun _ => Val_gain v (by omega)) v
      · split
        · refine Val_ifB (fun z => Val_nudge v ?_) v
          rw [Bool.and_eq_true, decide_eq_true_iff, decide_eq_true_iff] at z
          split
          · omega
          · rw [neg_nI (by omega)]; omega
        · split
          · exact Val_ifB (fun _ => Val_raise v) v
          · split
            · exact Val_ifB (fun _ => v) v
            · split
              · exact Val_ifB (fun _ => v) v
              · split
                · exact Val_ifB (fun _ => v) v
                · split
                  · exact Val_ifB (fun _ => v) v
                  · exact v
theorem PEq_ifB {b b' : Bool} {p p' g g' : Page} (hb : b' = b) (h : b = true → PEq p' p) (hg : PEq g' g) : PEq (ifB b' p' g').1 (ifB b p g).1 ∧ (ifB b' p' g').2 = (ifB b p g).2 := by
  subst hb
  unfold ifB
  split
  · rename_i c; exact ⟨h c, rfl⟩
  · exact ⟨hg, rfl⟩
theorem PEq_do {h g : Page} (v : Val g) (e : PEq h g) (a b c : Nat) (hc : c < 1000) : PEq (doF h a b c).1 (doF g a b c).1 ∧ (doF h a b c).2 = (doF g a b c).2 := by
  have v9 := v.pins.1
  unfold doF
  rw [e.lo (j := 7) (by decide), e.lo (j := 5) (by decide), e.lo (j := 10) (by decide), PEq_stand e]
  split
  · exact PEq_ifB rfl (fun _ => (PEq_turnN c (s := (h, 0, -9)) (t := (g, 0, -9)) v ⟨e, rfl⟩).1) e
  · split
    · exact PEq_ifB rfl (fun z => PEq_set ((setB_iff hc).mp z).1 e) e
    · split
      · exact PEq_ifB rfl (fun _ => PEq_gain e) e
      · split
        · exact PEq_ifB rfl (fun z => PEq_nudge e) e
        · split
          · exact PEq_ifB rfl (fun _ => PEq_raise v9 e) e
          · split
            · exact PEq_ifB rfl (fun _ => e) e
            · split
              · exact PEq_ifB rfl (fun _ => e) e
              · split
                · exact PEq_ifB rfl (fun _ => e) e
                · split
                  · exact PEq_ifB rfl (fun _ => e) e
                  · exact ⟨e, rfl⟩
def b01 (b : Bool) : Int32 := if b = true then 1 else 0
theorem stand_rng {g : Page} (v : Val g) : 0 ≤ (standF g).toInt ∧ (standF g).toInt ≤ 40 := by
  obtain ⟨-, -, -, -, -, -, -, -, v9, -, -, vp, -⟩ := id v
  have hp : pn g ≤ 40 := by unfold pn; omega
  have : ∀ n, n ≤ pn g → 0 ≤ (sumGo g n).toInt ∧ (sumGo g n).toInt ≤ n := by
    intro n
    induction n with
    | zero => intro _; exact ⟨by show 0 ≤ (0 : Int32).toInt; decide, by show (0 : Int32).toInt ≤ 0; decide⟩
    | succ n ih =>
      intro hn
      obtain ⟨a, b⟩ := ih (by omega)
      show 0 ≤ (sumGo g n + g (13 + 2 * n)).toInt ∧ (sumGo g n + g (13 + 2 * n)).toInt ≤ ((n + 1 : Nat) : Int)
      rcases (vp n (by omega)).2.2 with z | z <;> rw [z, i32_add] <;> first | rw [i0]; omega | rw [i1]; omega
  have := this (pn g) (Nat.le_refl _)
  unfold standF
  omega

theorem FrM.of {M M' : Mem} (h : M' = M) : FrM M M' 1 := fun c _ _ => by rw [h]
theorem s_does {n : Nat} (hn : n < 100000) {g : Page} {M : Mem} {Q : Int32 → Mem → Prop} (s : St M 1 g) (v : Val g) (k : ∀ M', St M' 1 (doF g (n / 10000) (n / 1000 % 10) (n % 1000)).1 → FrM M M' 1 → Q (b01 (doF g (n / 10000) (n / 1000 % 10) (n % 1000)).2) M') : wp_X4_commandSucceeds (nI n) M Q := by
  have v9 := v.pins.1
  have eq : ∀ x y : Nat, x < 2147483648 → y < 2147483648 → (nI x = nI y ↔ x = y) := fun x y hx hy => by rw [i32_eq, nI_toInt hx, nI_toInt hy]; omega
  simp only [wp_X4_commandSucceeds, forall_eq]
  have ea : nI n / 10000 = nI (n / 10000) := nI_div (b := 10000) (by omega) (by decide) (by decide)
  have eb : nI n / 1000 - nI n / 1000 / 10 * 10 = nI (n / 1000 % 10) := by
    have : nI n / 1000 = nI (n / 1000) := nI_div (b := 1000) (by omega) (by decide) (by decide)
    rw [this]; exact nI_mod (b := 10) (by omega) (by decide) (by decide)
  have ec : nI n - nI n / 1000 * 1000 = nI (n % 1000) := nI_mod (b := 1000) (by omega) (by decide) (by decide)
  rw [ea, eb, ec]
  have ha : n / 10000 < 10 := by omega
  have hb : n / 1000 % 10 < 10 := by omega
  have hc : n % 1000 < 1000 := by omega
  generalize n / 10000 = a at ha k
  generalize n / 1000 % 10 = b at hb k
  generalize n % 1000 = c at hc k
  have q : ∀ y : Nat, y < 100 → (nI a = nI y ↔ a = y) := fun y hy => eq a y (by omega) (by omega)
  have zb : nI b = 0 ↔ b = 0 := eq b 0 (by omega) (by omega)
  have zc : nI c = 0 ↔ c = 0 := eq c 0 (by omega) (by omega)
  have nc : (nI c).toInt = c := nI_toInt (by omega)
  have d600 : (600 : Int32).toInt = 600 := rfl
  have dm6 : (-600 : Int32).toInt = -600 := rfl
  have no : ∀ {x : Bool} {p : Page}, x = false → (ifB x p g) = (g, false) := fun h => by unfold ifB; rw [h]; rfl
  have yes : ∀ {x : Bool} {p : Page}, x = true → (ifB x p g) = (p, true) := fun h => by unfold ifB; rw [h]; rfl
  rw [show (1 : Int32) = nI 1 from rfl, show (2 : Int32) = nI 2 from rfl, show (3 : Int32) = nI 3 from rfl, show (4 : Int32) = nI 4 from rfl, show (5 : Int32) = nI 5 from rfl, show (6 : Int32) = nI 6 from rfl, show (7 : Int32) = nI 7 from rfl, show (8 : Int32) = nI 8 from rfl, show (9 : Int32) = nI 9 from rfl]
  rw [q 1 (by decide), q 2 (by decide), q 3 (by decide), q 4 (by decide), q 5 (by decide), q 6 (by decide), q 7 (by decide), q 8 (by decide), q 9 (by decide), zb, zc, nI_ltI (by omega) (by omega)]
  unfold doF at k
  refine ⟨fun h1 => ?_, fun h1 => ⟨fun h2 => ?_, fun h2 => ⟨fun h3 => ?_, fun h3 => ⟨fun h4 => ?_, fun h4 => ⟨fun h5 => ?_, fun h5 => ⟨fun h6 => ?_, fun h6 => ⟨fun h7 => ?_, fun h7 => ⟨fun h8 => ?_, fun h8 => ⟨fun h9 => ?_, fun h9 => ?_⟩⟩⟩⟩⟩⟩⟩⟩⟩
  · rw [if_pos h1] at k
    refine ⟨fun hb0 => ?_, fun hb0 => ?_⟩
    · rw [no (by simp [hb0])] at k; exact k _ s FrM.rfl'
    · simp only [wp_X4_trialSwings, wp_X4_turnsFit, forall_eq]
      rw [i32_lt, i32_lt, i1, d500, nc]
      refine ⟨fun z => ⟨fun y => absurd trivial y, fun _ => ⟨fun _ => ?_, fun y => absurd trivial y⟩⟩, fun z => ⟨fun z2 => ⟨fun y => absurd trivial y, fun _ => ⟨fun _ => ?_, fun y => absurd trivial y⟩⟩, fun z2 => ⟨fun _ => s_beginM (by decide) s v (fun M1 s1 m1 f1 => s_turns (by decide) (by omega) s1 v m1 (fun M2 s2 m2 f2 => ⟨fun y => absurd y (by decide), fun _ => ?_⟩)), fun y => absurd y (by decide)⟩⟩⟩
      · rw [no (by simp; omega)] at k; exact k _ s FrM.rfl'
      · rw [no (by simp; omega)] at k; exact k _ s FrM.rfl'
      · rw [yes (by simp; omega)] at k; exact k _ s2 (f1.trans f2)
  · rw [if_neg h1, if_pos h2] at k
    simp only [wp_X4_trialSets, forall_eq]
    refine s_fits (fun w hw ok => ⟨fun _ => ?_, fun z => absurd z (by decide)⟩) (fun nok => ⟨fun y => absurd rfl y, fun _ => ⟨rfl, ?_⟩⟩)
    · have : b = w := (eq b w (by omega) (by have := ok.1; omega)).mp hw
      subst this
      rw [yes ((setB_iff hc).mpr ok)] at k
      exact s_setting ok.1 s (fun M1 s1 f1 => ⟨rfl, k _ s1 f1.M⟩)
    · rw [no ?_] at k
      · exact k _ s FrM.rfl'
      · by_cases z : setB b c = true
        · exact absurd ((setB_iff hc).mp z) (nok b ((setB_iff hc).mp z).1 rfl)
        · exact Bool.eq_false_iff.mpr z
  · rw [if_neg h1, if_neg h2, if_pos h3] at k
    refine ⟨fun hb0 => ?_, fun hb0 => ?_⟩
    · rw [no (by simp [hb0])] at k; exact k _ s FrM.rfl'
    · simp only [wp_X4_trialIsPushed, wp_X4_pushFits, forall_eq]
      rw [i32_lt, i32_lt, i1, i9999, nc]
      refine ⟨fun z => ⟨fun y => absurd trivial y, fun _ => ⟨fun _ => ?_, fun y => absurd trivial y⟩⟩, fun z => ⟨fun z2 => absurd z2 (by omega), fun z2 => ⟨fun _ => s_gain s (fun M1 s1 f1 => ⟨fun y => absurd y (by decide), fun _ => ?_⟩), fun y => absurd y (by decide)⟩⟩⟩
      · rw [no (by simp; omega)] at k; exact k _ s FrM.rfl'
      · rw [yes (by simp; omega)] at k; exact k _ s1 f1.M
  · rw [if_neg h1, if_neg h2, if_neg h3, if_pos h4] at k
    refine ⟨fun hb0 => ?_, fun hb0 => ⟨fun z => ?_, fun z => ?_⟩⟩
    · rw [no (by simp; omega)] at k; exact k _ s FrM.rfl'
    · simp only [wp_X4_trialIsNudged, wp_X4_nudgeFits, forall_eq]
      rw [i32_lt, i32_lt, d600, dm6, neg_nI (by omega)]
      refine ⟨fun z1 => ⟨fun y => absurd trivial y, fun _ => ⟨fun _ => ?_, fun y => absurd trivial y⟩⟩, fun z1 => ⟨fun z2 => absurd z2 (by omega), fun z2 => ⟨fun _ => s_aside s (fun M1 s1 f1 => ⟨fun y => absurd y (by decide), fun _ => ?_⟩), fun y => absurd y (by decide)⟩⟩⟩
      · rw [no (by simp; omega)] at k; exact k _ s FrM.rfl'
      · rw [yes (by simp; omega), if_neg z] at k; exact k _ s1 f1.M
    · simp only [wp_X4_trialIsNudged, wp_X4_nudgeFits, forall_eq]
      rw [i32_lt, i32_lt, d600, dm6, nc]
      refine ⟨fun z1 => absurd z1 (by omega), fun z1 => ⟨fun z2 => ⟨fun y => absurd trivial y, fun _ => ⟨fun _ => ?_, fun y => absurd trivial y⟩⟩, fun z2 => ⟨fun _ => s_aside s (fun M1 s1 f1 => ⟨fun y => absurd y (by decide), fun _ => ?_⟩), fun y => absurd y (by decide)⟩⟩⟩
      · rw [no (by simp; omega)] at k; exact k _ s FrM.rfl'
      · rw [yes (by simp; omega), if_pos z] at k; exact k _ s1 f1.M
  · rw [if_neg h1, if_neg h2, if_neg h3, if_neg h4, if_pos h5] at k
    refine ⟨fun hb0 => ?_, fun hb0 => ⟨fun hc0 => ?_, fun hc0 => ?_⟩⟩
    · rw [no (by simp [hb0])] at k; exact k _ s FrM.rfl'
    · rw [no (by simp; omega)] at k; exact k _ s FrM.rfl'
    · rw [yes (by simp; omega)] at k
      unfold wp_X4_trialRaises
      exact s_standAll s v9 (fun M1 s1 f1 => ⟨fun y => absurd y (by decide), fun _ => k _ s1 f1.M⟩)
  · rw [if_neg h1, if_neg h2, if_neg h3, if_neg h4, if_neg h5, if_pos h6] at k
    refine ⟨fun hb0 => ?_, fun hb0 => s_standing s v9 ⟨fun z => ?_, fun z => ?_⟩⟩
    · rw [no (by simp [hb0])] at k; exact k _ s FrM.rfl'
    · rw [no (by simp [Ne.symm z])] at k; exact k _ s FrM.rfl'
    · rw [yes (by simp [z, hb0])] at k; exact k _ s FrM.rfl'
  · rw [if_neg h1, if_neg h2, if_neg h3, if_neg h4, if_neg h5, if_neg h6, if_pos h7] at k
    rw [show (1000 : Int32) = nI 1000 from rfl, nI_mul, nI_addn, s.height, Nat.mul_comm b 1000]
    refine ⟨fun z => ?_, fun z => ?_⟩
    · rw [no (by simp [z])] at k; exact k _ s FrM.rfl'
    · rw [yes (by simp [z])] at k; exact k _ s FrM.rfl'
  · rw [if_neg h1, if_neg h2, if_neg h3, if_neg h4, if_neg h5, if_neg h6, if_neg h7, if_pos h8] at k
    rw [s.dir]
    refine ⟨fun hb0 => ?_, fun hb0 => ⟨fun z => ?_, fun z => ?_⟩⟩
    · rw [no (by simp [hb0])] at k; exact k _ s FrM.rfl'
    · rw [no (by simp [z])] at k; exact k _ s FrM.rfl'
    · rw [yes (by simp [z, hb0])] at k; exact k _ s FrM.rfl'
  · rw [if_neg h1, if_neg h2, if_neg h3, if_neg h4, if_neg h5, if_neg h6, if_neg h7, if_neg h8, if_pos h9] at k
    rw [s.hits]
    refine ⟨fun hb0 => ?_, fun hb0 => ⟨fun z => ?_, fun z => ?_⟩⟩
    · rw [no (by simp [hb0])] at k; exact k _ s FrM.rfl'
    · rw [no (by simp [Ne.symm z])] at k; exact k _ s FrM.rfl'
    · rw [yes (by simp [z, hb0])] at k; exact k _ s FrM.rfl'
  · rw [if_neg h1, if_neg h2, if_neg h3, if_neg h4, if_neg h5, if_neg h6, if_neg h7, if_neg h8, if_neg h9] at k
    exact k _ s FrM.rfl'

def lI (n : Nat) : Int64 := Int64.ofInt n
theorem lI_toInt {n : Nat} (h : n < 9223372036854775808) : (lI n).toInt = n := i64_ofInt (by omega) (by omega)
theorem lI_of {x : Int64} (h : 0 ≤ x.toInt) : x = lI x.toInt.toNat := by
  have := i64_hi x
  rw [i64_eq, lI_toInt (by omega)]; omega
theorem lI_div {a b : Nat} (ha : a < 9223372036854775808) (hb : 0 < b) (hb2 : b < 9223372036854775808) : lI a / lI b = lI (a / b) := by
  have : a / b ≤ a := Nat.div_le_self a b
  have hne : lI b ≠ -1 := fun z => by
    have := congrArg Int64.toInt z
    rw [lI_toInt hb2] at this
    have : (-1 : Int64).toInt = -1 := rfl
    omega
  rw [i64_eq, Int64.toInt_div_of_ne_right _ _ hne, lI_toInt ha, lI_toInt hb2, lI_toInt (by omega)]
  exact (Int.ofNat_tdiv a b).symm
theorem lI_mod {a b : Nat} (ha : a < 9223372036854775808) (hb : 0 < b) (hb2 : b < 9223372036854775808) : lI a - lI a / lI b * lI b = lI (a % b) := by
  have : a % b ≤ a := Nat.mod_le a b
  rw [i64_eq, i64_tmod (by rw [lI_toInt hb2]; omega), lI_toInt ha, lI_toInt hb2, lI_toInt (by omega)]
  exact (Int.ofNat_tmod a b).symm
theorem lI_to32 {a : Nat} (h : a < 2147483648) : (lI a).toInt32 = nI a := by
  rw [i32_eq, i64_to32 (by rw [lI_toInt (by omega)]; omega) (by rw [lI_toInt (by omega)]; omega), lI_toInt (by omega), nI_toInt h]
theorem lI_ne {a : Nat} (h : 0 < a) (h2 : a < 9223372036854775808) : ¬ lI a = 0 := fun z => by
  have := congrArg Int64.toInt z
  rw [lI_toInt h2] at this
  have : (0 : Int64).toInt = 0 := rfl
  omega
theorem litG : (100000 : Int64) = lI 100000 := rfl
theorem s_wg {X g : Nat} (hX : X < 9223372036854775808) (hg : g ≤ 10) {M : Mem} {Q : Int64 → Mem → Prop} (k : Q (lI (X / 100000 ^ g)) M) : wp_X4_withoutGroups (lI X) (nI g) M Q := by
  refine ⟨fun w z M' => M' = M ∧ ∃ i, i ≤ g ∧ w = nI i ∧ z = lI (X / 100000 ^ i), fun w _ _ => 100 - w.toNatClampNeg, ⟨rfl, 0, Nat.zero_le _, rfl, by rw [Nat.pow_zero, Nat.div_one]⟩, ?_⟩
  rintro w z M' ⟨rfl, i, hi, rfl, rfl⟩
  simp only [forall_eq]
  rw [nI_leI (by omega) (by omega)]
  refine ⟨fun c => ?_, fun c => ⟨⟨trivial, i + 1, by omega, nI_1 i, ?_⟩, mu_lt (by omega) (by decide)⟩⟩
  · have : i = g := by omega
    subst this; exact k
  · have := Nat.div_le_self X (100000 ^ i)
    rw [litG, lI_div (by omega) (by decide) (by decide), Nat.div_div_eq_div_mul, Nat.pow_succ]
def grp (n X k : Nat) : Nat := X / 100000 ^ (n - 1 - k) % 100000
def doC (g : Page) (n : Nat) : Page × Bool := doF g (n / 10000) (n / 1000 % 10) (n % 1000)
def runF (q : Nat → Nat) : Nat → Nat → Page → Int32
  | 0, _, _ => -9
  | f + 1, k, g => if (doC g (q k)).2 = true then runF q f (k + 1) (doC g (q k)).1 else nI k
theorem run_PEq {q : Nat → Nat} : ∀ (f k : Nat) {h g : Page}, Val g → PEq h g → runF q f k h = runF q f k g
  | 0, _, _, _, _, _ => rfl
  | f + 1, k, h, g, v, e => by
    obtain ⟨e1, e2⟩ := PEq_do v e (q k / 10000) (q k / 1000 % 10) (q k % 1000) (by omega)
    have ih := run_PEq (q := q) f (k + 1) (Val_do v (q k / 10000) (q k / 1000 % 10) (q k % 1000) (by omega)) e1
    unfold runF doC
    rw [e2, ih]
theorem run_s {q : Nat → Nat} {n k : Nat} {g : Page} (h : k < n) : runF q (n - k) k g = if (doC g (q k)).2 = true then runF q (n - (k + 1)) (k + 1) (doC g (q k)).1 else nI k := by
  obtain ⟨m, hm⟩ : ∃ m, n - k = m + 1 := ⟨n - k - 1, by omega⟩
  rw [hm, show n - (k + 1) = m by omega]
  rfl
theorem pow_lt {n : Nat} (h : n ≤ 3) : 0 < 100000 ^ n ∧ 100000 ^ n ≤ 1000000000000000 := by
  rcases (show n = 0 ∨ n = 1 ∨ n = 2 ∨ n = 3 by omega) with z | z | z | z <;> subst z <;> decide
theorem b01_ne {b : Bool} : (¬ b01 b = 0) ↔ b = true := by cases b <;> decide
theorem b01_eq {b : Bool} : b01 b = 0 ↔ ¬ b = true := by cases b <;> decide

theorem t_script {K : KS} {x : Int32} {y : Int64} (n X : Nat) (hx : x = nI n) (hn : 1 ≤ n ∧ n ≤ 3) (hy : y = lI X) (hX : X < 100000 ^ n) : Does (wp_L_tryScript x y) K (runF (grp n X) n 0 K.1) K := by
  intro M Q R k
  obtain ⟨⟨⟨h, s, e⟩, v⟩, -⟩ := id R
  have vh := Val_PEq v e
  have d3 : (3 : Int32).toInt = 3 := rfl
  have e0 : (0 : Int64).toInt = 0 := rfl
  have pl := pow_lt hn.2
  have hY : X < 9223372036854775808 := by omega
  have xi : x.toInt = n := by rw [hx, nI_toInt (by omega)]
  simp only [wp_L_tryScript, wp_X4_runScript, forall_eq]
  rw [i32_lt, i32_le, i1, d3, lg_cmp_lt, i64_lt, e0]
  have yi : y.toInt = X := by rw [hy, lI_toInt hY]
  refine ⟨fun c => absurd c (by omega), fun c => ⟨fun c2 => ⟨fun c3 => absurd c3 (by omega), fun c3 => ?_⟩, fun c2 => absurd (by omega) c2⟩⟩
  rw [hx, hy]
  refine s_wg hY (by omega) ?_
  have dl := Nat.div_le_self X (100000 ^ n)
  rw [lg_cmp_le, i64_le, e0, lI_toInt (by omega)]
  have key : X / 100000 ^ n = 0 := by rw [Nat.div_eq_zero_iff]; omega
  refine ⟨fun c4 => ?_, fun c4 => absurd (by rw [key]; exact Int.le_refl _) c4⟩
  have eR : runF (grp n X) n 0 h = runF (grp n X) n 0 K.1 := run_PEq n 0 v e
  refine s_copyFrom s (by decide) (fun M1 s1 f1 => ?_)
  refine ⟨fun w M' => ∃ i p, i ≤ n ∧ w = nI i ∧ St M' 1 p ∧ Val p ∧ FrM M M' 1 ∧ runF (grp n X) (n - i) i p = runF (grp n X) n 0 K.1, fun w _ => 100 - w.toNatClampNeg, ⟨0, h, Nat.zero_le _, rfl, s1, vh, f1.M, eR⟩, ?_⟩
  rintro w M' ⟨i, p, hi, rfl, s2, vp, f2, hs⟩
  rw [nI_leI (by omega) (by omega)]
  refine ⟨fun c => ?_, fun c => ?_⟩
  · have : i = n := by omega
    subst this
    rw [Nat.sub_self] at hs
    have hs' : -9 = runF (grp i X) i 0 K.1 := hs
    rw [hs']; exact k _ (R.trial f2)
  · rw [run_s (by omega)] at hs; unfold doC at hs
    have es : nI n - 1 - nI i = nI (n - 1 - i) := by
      have a : nI n - 1 = nI (n - 1) := by rw [show (1 : Int32) = nI 1 from rfl, Int32.sub_eq_iff_eq_add, nI_addn]; congr 1; omega
      rw [a, Int32.sub_eq_iff_eq_add, nI_addn]; congr 1; omega
    have gl : grp n X i < 100000 := by unfold grp; omega
    have dl2 := Nat.div_le_self X (100000 ^ (n - 1 - i))
    rw [es]
    refine s_wg hY (by omega) ?_
    have eg : (lI (X / 100000 ^ (n - 1 - i)) - lI (X / 100000 ^ (n - 1 - i)) / 100000 * 100000).toInt32 = nI (grp n X i) := by
      rw [litG, lI_mod (by omega) (by decide) (by decide)]
      exact lI_to32 (by omega)
    rw [eg]
    refine s_does gl s2 vp (fun M3 s3 f3 => ?_)
    rw [b01_ne, b01_eq]
    refine ⟨fun z => ⟨⟨i + 1, _, by omega, nI_1 i, s3, Val_do vp _ _ _ (by omega), f2.trans f3, ?_⟩, mu_lt (by omega) (by decide)⟩, fun z => ?_⟩
    · rw [if_pos z] at hs; exact hs
    · rw [if_neg z] at hs
      rw [hs]; exact k _ (R.trial (f2.trans f3))
theorem t_scriptA {K : KS} {x : Int32} {y : Int64} (h : ¬ (1 ≤ x.toInt ∧ x.toInt ≤ 3)) : Does (wp_L_tryScript x y) K (-1002) K := by
  intro M Q R k
  have d3 : (3 : Int32).toInt = 3 := rfl
  simp only [wp_L_tryScript, wp_X4_runScript, forall_eq]
  rw [i32_lt, i32_le, i1, d3]
  exact ⟨fun c => ⟨fun _ => k _ R, trivial⟩, fun c => ⟨fun c2 => absurd ⟨by omega, c2⟩ h, fun c2 => ⟨fun _ => k _ R, trivial⟩⟩⟩
theorem t_scriptB {K : KS} {x : Int32} {y : Int64} (n X : Nat) (hx : x = nI n) (hn : 1 ≤ n ∧ n ≤ 3) (hy : y = lI X) (hX : 100000 ^ n ≤ X) (hY : X < 9223372036854775808) : Does (wp_L_tryScript x y) K (-1002) K := by
  intro M Q R k
  have d3 : (3 : Int32).toInt = 3 := rfl
  have e0 : (0 : Int64).toInt = 0 := rfl
  have xi : x.toInt = n := by rw [hx, nI_toInt (by omega)]
  have pl := pow_lt hn.2
  simp only [wp_L_tryScript, wp_X4_runScript, forall_eq]
  rw [i32_lt, i32_le, i1, d3, lg_cmp_lt, i64_lt, e0]
  have yi : y.toInt = X := by rw [hy, lI_toInt hY]
  refine ⟨fun c => absurd c (by omega), fun c => ⟨fun c2 => ⟨fun c3 => absurd c3 (by omega), fun c3 => ?_⟩, fun c2 => absurd (by omega) c2⟩⟩
  rw [hx, hy]
  refine s_wg hY (by omega) ?_
  have dl := Nat.div_le_self X (100000 ^ n)
  rw [lg_cmp_le, i64_le, e0, lI_toInt (by omega)]
  have key : 0 < X / 100000 ^ n := Nat.div_pos hX pl.1
  exact ⟨fun c4 => absurd c4 (by omega), fun c4 => ⟨fun _ => k _ R, trivial⟩⟩

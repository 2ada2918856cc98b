theorem isD_num {t : Page} {a m : Nat} (u : upTo t (a + m)) (ha : 2 ≤ a) (h : a + m ≤ 13) : ∀ i, i < m → isD t (a + i) := fun i hi => u.dig (by omega) (by omega) (by omega)
/-! THE TEXT TOLD -/
theorem num_cong {t t' : Page} {a : Nat} : ∀ m, (∀ j, j < m → t (a + j) = t' (a + j)) → num t a m = num t' a m
  | 0, _ => rfl
  | m + 1, h => by
    unfold num dg
    rw [num_cong m (fun j hj => h j (by omega)), h m (by omega)]
theorem isD_cong {t t' : Page} {i : Nat} (h : t i = t' i) : isD t i → isD t' i := by unfold isD; rw [h]; exact id
theorem alw_cong {t t' : Page} {i : Nat} (h : ∀ j, j ≤ i → t j = t' j) (a : alw t i) : alw t' i := by
  obtain ⟨a0, a1, a2, a4, a7, a9, aq, ap⟩ := a
  have D : isD t i → isD t' i := isD_cong (h i (Nat.le_refl _))
  refine ⟨fun z => by rw [← h 0 (by omega)]; exact a0 z, fun z => by rw [← h 1 (by omega)]; exact a1 z, fun z1 z2 => ⟨D (a2 z1 z2).1, ?_⟩, fun z1 z2 => ⟨D (a4 z1 z2).1, ?_⟩, fun z1 z2 => D (a7 z1 z2), a9, fun z1 z2 => by rw [← h i (by omega)]; exact aq z1 z2, fun z1 z2 => ⟨D (ap z1 z2).1, ?_⟩⟩
  · rw [← num_cong (t := t) (i - 1) (fun j hj => h _ (by omega))]; exact (a2 z1 z2).2
  · rw [← num_cong (t := t) (i - 3) (fun j hj => h _ (by omega))]; exact (a4 z1 z2).2
  · obtain ⟨u, b1, b2, b3, b4⟩ := (ap z1 z2).2
    have e := num_cong (t := t) (t' := t') (a := 14 + 4 * ((i - 13) / 4)) ((i - 13) % 4 - 1 + 1) (fun j hj => h _ (by omega))
    rw [e] at b1 b3
    refine ⟨u, b1, b2, b3, fun j hj => ?_⟩
    have := b4 j hj
    unfold deg at this ⊢
    rw [← num_cong (t := t) 3 (fun x hx => h _ (by omega))]
    exact this
theorem errAt.cong {t t' : Page} {n s : Nat} (h : ∀ j, j < n → t j = t' j) (a : errAt t n s) : errAt t' n s := by
  obtain ⟨a1, a2, a3, a4⟩ := a
  exact ⟨a1, fun i hi => alw_cong (fun j hj => h j (by omega)) (a2 i hi), fun hs c => a3 hs (alw_cong (fun j hj => (h j (by omega)).symm) c), a4⟩

def ldN (t : Page) (g : Page) : Nat → Page
  | 0 => g
  | k + 1 => putF (ldN t g k) (nI (60 * deg t k))
theorem ld_facts {t g : Page} (h9 : g 9 = 0) : ∀ k, k ≤ 20 → ldN t g k 9 = nI k ∧ pn (ldN t g k) = k ∧ ∀ j, j < k → ldN t g k (12 + 2 * j) = nI (60 * deg t j)
  | 0, _ => ⟨h9, by show pn g = 0; unfold pn; rw [h9]; rfl, fun j hj => absurd hj (by omega)⟩
  | k + 1, hk => by
    obtain ⟨a, b, c⟩ := ld_facts h9 k (by omega)
    have h := pn_put (ldN t g k) (nI (60 * deg t k)) (by rw [a, nI_toInt (by omega)]; omega)
    refine ⟨?_, by show pn (putF _ _) = _; rw [h, b], fun j hj => ?_⟩
    · show putF (ldN t g k) (nI (60 * deg t k)) 9 = _
      unfold putF
      rw [updE, if_pos rfl, a, nI_1]
    · show putF (ldN t g k) (nI (60 * deg t k)) (12 + 2 * j) = _
      unfold putF
      rw [b, updE, if_neg (by omega), updE, if_neg (by omega), updE]
      by_cases e : j = k
      · subst e; rw [if_pos rfl]
      · rw [if_neg (by omega)]; exact c j (by omega)
def latF (t : Page) : Int32 := if t 1 = 45 then -(nI (num t 2 2)) else nI (num t 2 2)
def ldG (t p : Page) : Page := upd (upd (upd (upd (begF p) 0 (latF t)) 1 (nI (num t 4 3))) 2 (nI (num t 7 2))) 7 (nI (num t 9 4))
theorem m9 (x : Nat) (h : x < 100000) : ¬ nI x = -9 := by
  rw [i32_eq, nI_toInt (by omega)]
  have : (-9 : Int32).toInt = -9 := rfl
  omega



theorem alw_set {t : Page} {i : Nat} (h2 : 2 ≤ i) (h13 : i < 13) : alw t i ↔ isD t i ∧ (i < 4 → fitsN (num t 2 (i - 1)) (10 ^ (3 - i)) 0 90) ∧ (4 ≤ i → i < 7 → fitsN (num t 4 (i - 3)) (10 ^ (6 - i)) 60 900) := by
  constructor
  · rintro ⟨-, -, a2, a4, a7, -, -, -⟩
    by_cases c : i < 4
    · exact ⟨(a2 h2 c).1, fun _ => (a2 h2 c).2, fun h => absurd h (by omega)⟩
    · by_cases c2 : i < 7
      · exact ⟨(a4 (by omega) c2).1, fun h => absurd h c, fun h1 h2 => (a4 h1 h2).2⟩
      · exact ⟨a7 (by omega) h13, fun h => absurd h c, fun _ h => absurd h c2⟩
  · rintro ⟨d, f1, f2⟩
    exact ⟨fun h => absurd h (by omega), fun h => absurd h (by omega), fun _ h => ⟨d, f1 h⟩, fun h1 h2 => ⟨d, f2 h1 h2⟩, fun _ _ => d, by omega, fun h => absurd h (by omega), fun h => absurd h (by omega)⟩

theorem upTo.cong {t t' : Page} {n : Nat} (h : ∀ j, j < n → t j = t' j) (a : upTo t n) : upTo t' n := fun i hi => alw_cong (fun j hj => h j (by omega)) (a i hi)
theorem num_u {t : Page} {n a e : Nat} (u : upTo t n) (h1 : 2 ≤ a) (h2 : e ≤ 13) (h3 : 13 ≤ n) : ∀ i, i < e - a → isD t (a + i) := fun i hi => u.dig (by omega) (by omega) (by omega)
theorem Val_ldG {t p : Page} (u : upTo t 13) : Val (ldG t p) := by
  obtain ⟨⟨b0, b1, b2, b3, b7⟩, bz⟩ := begF_lo (g := p)
  have l3 := ((alw_set (t := t) (i := 3) (by decide) (by decide)).mp (u 3 (by decide))).2.1 (by decide)
  have l6 := ((alw_set (t := t) (i := 6) (by decide) (by decide)).mp (u 6 (by decide))).2.2 (by decide) (by decide)
  have n2 : num t 2 2 ≤ 90 := by have := l3.1; show num t 2 (3 - 1) ≤ 90; simpa using this
  have n4 : 60 ≤ num t 4 3 ∧ num t 4 3 ≤ 900 := by
    have h1 := l6.1
    have h2 := l6.2
    simp at h1 h2
    exact ⟨by omega, h1⟩
  have n7 := num_lt (t := t) (a := 7) 2 (isD_num (fun i hi => u i (by omega)) (by decide) (by decide))
  have n9 := num_lt (t := t) (a := 9) 4 (isD_num (fun i hi => u i (by omega)) (by decide) (by decide))
  have e : ∀ j, j ≠ 0 → j ≠ 1 → j ≠ 2 → j ≠ 7 → ldG t p j = begF p j := fun j h0 h1 h2 h7 => by
    unfold ldG; rw [updE, if_neg h7, updE, if_neg h2, updE, if_neg h1, updE, if_neg h0]
  have e0 : ldG t p 0 = latF t := by unfold ldG; simp (disch := omega) only [updE, if_neg, ite_true]
  have e1 : ldG t p 1 = nI (num t 4 3) := by unfold ldG; simp (disch := omega) only [updE, if_neg, ite_true]
  have e2 : ldG t p 2 = nI (num t 7 2) := by unfold ldG; simp (disch := omega) only [updE, if_neg, ite_true]
  have e7 : ldG t p 7 = nI (num t 9 4) := by unfold ldG; simp (disch := omega) only [updE, if_neg, ite_true]
  have z : ∀ j, j = 4 ∨ j = 5 ∨ j = 6 → ldG t p j = 0 := fun j hj => by rw [e j (by omega) (by omega) (by omega) (by omega)]; exact bz j (by omega) (by omega) (by omega) (by omega) (by omega) (by omega)
  refine Val_sc (Val_beg p) (fun j hj => e j (by omega) (by omega) (by omega) (by omega)) ?_ ?_ ?_ ?_ ?_ ?_ ?_ ?_
  · rw [e0]; unfold latF
    split
    · rw [neg_nI (by omega)]; omega
    · rw [nI_toInt (by omega)]; omega
  · rw [e1, nI_toInt (by omega)]; omega
  · rw [e2, nI_toInt (by omega)]; omega
  · rw [e 3 (by decide) (by decide) (by decide) (by decide), b3]; decide
  · rw [z 4 (by omega)]; decide
  · rw [z 5 (by omega)]; decide
  · rw [z 6 (by omega), e1, nI_toInt (by omega), i0]; omega
  · rw [e7, nI_toInt (by omega)]; omega
theorem ldG_9 (t p : Page) : ldG t p 9 = 0 := by
  unfold ldG; simp (disch := omega) only [updE, if_neg]; rfl
theorem Val_ldN {t p : Page} {n : Nat} (u : upTo t n) : ∀ k, k ≤ 20 → 13 + 4 * k ≤ n → Val (ldN t (ldG t p) k)
  | 0, _, h => Val_ldG (fun i hi => u i (by omega))
  | k + 1, hk, h => by
    obtain ⟨a, b, c⟩ := ld_facts (t := t) (ldG_9 t p) k (by omega)
    have d := (u.place (k := k) (by omega))
    refine Val_put (Val_ldN u k (by omega) (by omega)) (by omega) (by rw [nI_toInt (by omega)]; omega) (fun j hj e => ?_)
    rw [b] at hj
    rw [c j hj, eqn (by have := (u.place (k := j) (by omega)).1; omega) (by omega)] at e
    exact d.2 j hj (by omega)
theorem PEq_ldN {t g h : Page} (h9 : g 9 = 0) (e : PEq h g) : ∀ k, k ≤ 20 → PEq (ldN t h k) (ldN t g k)
  | 0, _ => e
  | k + 1, hk => PEq_put (by rw [(ld_facts (t := t) h9 k (by omega)).1, nI_toInt (by omega)]; omega) (PEq_ldN h9 e k (by omega))

def begH (h : Page) : Page := fun x => if x < 5 then fFIRST x else if x = 7 then 5000 else if x < 12 then 0 else h x
theorem PEq_begH {h p : Page} : PEq (begH h) (begF p) := by
  obtain ⟨⟨b0, b1, b2, b3, b7⟩, bz⟩ := begF_lo (g := p)
  have z9 : begF p 9 = 0 := bz 9 (by decide) (by decide) (by decide) (by decide) (by decide) (by decide)
  have z10 : begF p 10 = 0 := bz 10 (by decide) (by decide) (by decide) (by decide) (by decide) (by decide)
  have z11 : begF p 11 = 0 := bz 11 (by decide) (by decide) (by decide) (by decide) (by decide) (by decide)
  refine ⟨fun j hj => ?_, fun k hk => ?_, fun j hj => ?_, fun j hj => ?_⟩
  · rcases (show j = 0 ∨ j = 1 ∨ j = 2 ∨ j = 3 ∨ j = 4 ∨ j = 7 ∨ (j = 5 ∨ j = 6 ∨ 8 ≤ j) by omega) with z | z | z | z | z | z | z
    · subst z; rw [b0]; rfl
    · subst z; rw [b1]; rfl
    · subst z; rw [b2]; rfl
    · subst z; rw [b3]; rfl
    · subst z; rw [bz 4 (by decide) (by decide) (by decide) (by decide) (by decide) (by decide)]; rfl
    · subst z; rw [b7]; rfl
    · rw [bz j (by omega) (by omega) (by omega) (by omega) (by omega) (by omega)]
      unfold begH
      rw [if_neg (by omega), if_neg (by omega), if_pos hj]
  · unfold pn at hk; rw [z9] at hk; exact absurd hk (by decide +revert)
  · rw [z10] at hj; exact absurd hj (by show ¬ j < 0; omega)
  · unfold rn at hj; rw [z11] at hj; exact absurd hj (by show ¬ j < 0; omega)
def ldH (t h : Page) : Page := upd (upd (upd (upd (begH h) 0 (latF t)) 1 (nI (num t 4 3))) 2 (nI (num t 7 2))) 7 (nI (num t 9 4))
theorem PEq_ldH {t h p : Page} : PEq (ldH t h) (ldG t p) := PEq_upd (PEq_upd (PEq_upd (PEq_upd PEq_begH (by decide)) (by decide)) (by decide)) (by decide)
theorem s_load {n : Nat} {t : Page} {M : Mem} {Q : Int32 → Mem → Prop} {EQ : String → Mem → Prop} (hn : n ≤ 100) (e1 : M 109 1 = nI n) (e2 : M 110 = t) (kE : ∀ s, errAt t n s → EQ "java/lang/IllegalStateException" M)
    (kN : upTo t n → compl n → ∀ M' h, St M' 0 (ldN t (ldH t h) ((n - 13) / 4)) → (∀ c, 6 ≤ c → c ≠ 113 → c ≠ 116 → M' c = M c) → M' 113 1 = M 113 1 → M' 113 2 = 0 → M' 116 0 = 0 → M' 116 1 = 0 → Q (nI ((n - 13) / 4)) M') : wp_X4_load M Q EQ := by
  simp only [wp_X4_load, wp_X3_latitude, wp_X3_turnsInHour, wp_X3_drag, wp_X3_height, wp_X3_pins, wp_X3_placeOfPin, wp_X0_forget, forall_eq]
  refine s_firstError hn e1 e2 (fun s hs => ⟨fun z => absurd z (m9 s (by have := hs.1; omega)), fun _ => kE s hs⟩) (fun u cm => ⟨fun _ => ?_, fun z => absurd rfl z⟩)
  have n13 := cm.1
  have dg13 : ∀ a m, 2 ≤ a → a + m ≤ 13 → ∀ i, i < m → isD t (a + i) := fun a m h1 h2 i hi => u.dig (by omega) (by omega) (by omega)
  refine s_begin (fun M1 top pg f1 => ?_)
  have f : ∀ c, 6 ≤ c → M1 c = M c := fun c hc => f1 c (by omega)
  have s0 : St M1 0 (begH (pv M1 0)) := ⟨funext pg, by rw [top]; decide, by rw [top]; decide⟩
  generalize pv M1 0 = H at s0 pg
  have p20 : (n - 13) / 4 ≤ 20 ∧ 13 + 4 * ((n - 13) / 4) = n := by
    have a := cm.2
    refine ⟨?_, by omega⟩
    by_cases c : n ≤ 93
    · omega
    · obtain ⟨-, -, -, -, -, x, -⟩ := u 93 (by omega)
      omega
  have m109 : M1 109 1 = nI n := by rw [f 109 (by decide)]; exact e1
  have m110 : M1 110 = t := by rw [f 110 (by decide)]; exact e2
  refine s_num (a := 2) (m := 2) (e := 4) hn (by decide) (by decide) (by omega) m109 m110 (dg13 2 2 (by decide) (by decide)) ?_
  rw [m110]
  have k9 : ldH t H 9 = 0 := by
    have := (PEq_ldH (t := t) (h := H) (p := H)).lo (j := 9) (by decide)
    rw [this]; exact ldG_9 _ _
  refine ⟨fun z => ?_, fun z => ?_⟩
  all_goals
    first
      | rw [show -(nI (num t 2 2)) = latF t from by unfold latF; rw [if_pos z]]
      | rw [show nI (num t 2 2) = latF t from by unfold latF; rw [if_neg z]]
    have s1 := s0.set' (k := 0) (by decide) (latF t)
    refine s_num (a := 4) (m := 3) (e := 7) hn (by decide) (by decide) (by omega) (by rw [mup_ne (by decide)]; exact m109) (by rw [mup_ne (by decide)]; exact m110) (dg13 4 3 (by decide) (by decide)) ?_
    have s2 := s1.set' (k := 1) (by decide) (nI (num t 4 3))
    refine s_num (a := 7) (m := 2) (e := 9) hn (by decide) (by decide) (by omega) (by rw [mup_ne (by decide), mup_ne (by decide)]; exact m109) (by rw [mup_ne (by decide), mup_ne (by decide)]; exact m110) (dg13 7 2 (by decide) (by decide)) ?_
    have s3 := s2.set' (k := 2) (by decide) (nI (num t 7 2))
    refine s_num (a := 9) (m := 4) (e := 13) hn (by decide) (by decide) (by omega) (by rw [mup_ne (by decide), mup_ne (by decide), mup_ne (by decide)]; exact m109) (by rw [mup_ne (by decide), mup_ne (by decide), mup_ne (by decide)]; exact m110) (dg13 9 4 (by decide) (by decide)) ?_
    have s4 := s3.f (k := 3) (nI (num t 9 4)) (by decide) (by decide)
    have fm : ∀ c, 6 ≤ c → mup (mup (mup (mup M1 (6 * 0 + 1) 0 (latF t)) (6 * 0 + 1) 1 (nI (num t 4 3))) (6 * 0 + 1) 2 (nI (num t 7 2))) (6 * 0) 3 (nI (num t 9 4)) c = M c := fun c hc => by
      rw [mup_ne (by omega), mup_ne (by omega), mup_ne (by omega), mup_ne (by omega), f c hc]
    have s5 : St (mup (mup (mup (mup M1 (6 * 0 + 1) 0 (latF t)) (6 * 0 + 1) 1 (nI (num t 4 3))) (6 * 0 + 1) 2 (nI (num t 7 2))) (6 * 0) 3 (nI (num t 9 4))) 0 (ldH t H) := s4
    generalize mup (mup (mup (mup M1 (6 * 0 + 1) 0 (latF t)) (6 * 0 + 1) 1 (nI (num t 4 3))) (6 * 0 + 1) 2 (nI (num t 7 2))) (6 * 0) 3 (nI (num t 9 4)) = M4 at fm s5
    have ep : (M4 109 1 - 13) / 4 = nI ((n - 13) / 4) := by
      rw [fm 109 (by decide), e1]
      have b : nI n - 13 = nI (n - 13) := by rw [show (13 : Int32) = nI 13 from rfl, Int32.sub_eq_iff_eq_add, nI_addn]; congr 1; omega
      rw [b]; exact nI_div (b := 4) (by omega) (by decide) (by decide)
    rw [ep]
    refine ⟨fun w M' => ∃ k, k ≤ (n - 13) / 4 ∧ w = nI k ∧ St M' 0 (ldN t (ldH t H) k) ∧ ∀ c, 6 ≤ c → M' c = M c, fun w _ => 1000 - w.toNatClampNeg, ⟨0, Nat.zero_le _, rfl, s5, fm⟩, ?_⟩
    rintro w M' ⟨k, hk, rfl, sk, fk⟩
    rw [nI_leI (by omega) (by omega)]
    refine ⟨fun c => ?_, fun c => ?_⟩
    · have : k = (n - 13) / 4 := by omega
      subst this
      refine ⟨fun w M'' => ∃ j, j ≤ 2 ∧ w = nI j ∧ (∀ c, c ≠ 113 → c ≠ 116 → M'' c = M' c) ∧ M'' 113 1 = M 113 1 ∧ M'' 113 2 = 0 ∧ ∀ x, x < j → M'' 116 x = 0, fun w _ => 10 - w.toNatClampNeg, ⟨0, by decide, rfl, fun c h1 h2 => mup_ne h1, by rw [mup_self, updE, if_neg (by decide), fk 113 (by decide)], by rw [mup_self, updE, if_pos rfl], fun x hx => absurd hx (by omega)⟩, ?_⟩
      rintro w M'' ⟨j, hj, rfl, g1, g2, g3, g4⟩
      rw [show (2 : Int32) = nI 2 from rfl, nI_leI (by omega) (by omega), nI_clamp (by omega)]
      refine ⟨fun c => ?_, fun c => ⟨vp_in_nI (by omega) (by decide), ⟨j + 1, by omega, nI_1 j, fun c h1 h2 => by rw [mup_ne h2]; exact g1 c h1 h2, by rw [mup_ne (by decide)]; exact g2, by rw [mup_ne (by decide)]; exact g3, fun x hx => ?_⟩, mu_lt (by omega) (by decide)⟩⟩
      · have : j = 2 := by omega
        subst this
        have sF := sk.frame' (M' := M'') (fun r hr => g1 _ (by omega) (by omega))
        have eQ : M'' (6 * 0) 5 = nI ((n - 13) / 4) := by
          rw [sF.pins]; exact (ld_facts (t := t) k9 _ p20.1).1
        rw [eQ]
        exact kN u cm M'' H sF (fun c h1 h2 h3 => by rw [g1 c h2 h3, fk c h1]) g2 g3 (g4 0 (by decide)) (g4 1 (by decide))
      · rw [mup_self, updE]
        split
        · rfl
        · exact g4 x (by omega)
    · refine s_deg hn (by omega) (by rw [fk 109 (by decide)]; exact e1) (by rw [fk 110 (by decide)]; exact e2) (fun i hi => u i (by omega)) ?_
      have e60 : (60 : Int32) * nI (deg t k) = nI (60 * deg t k) := nI_mul 60 _
      rw [e60]
      have l9 := (ld_facts (t := t) k9 k (by omega)).1
      refine s_putPin sk (by rw [l9, nI_toInt (by omega)]; omega) (fun M5 s6 f6 => ⟨⟨k + 1, by omega, nI_1 k, s6, fun c hc => by rw [f6 c (by omega), fk c hc]⟩, mu_lt (by omega) (by decide)⟩)

theorem ldN_cong {t t' g : Page} : ∀ k, (∀ j, j < k → deg t j = deg t' j) → ldN t g k = ldN t' g k
  | 0, _ => rfl
  | k + 1, h => by
    show putF (ldN t g k) (nI (60 * deg t k)) = putF (ldN t' g k) (nI (60 * deg t' k))
    rw [ldN_cong k (fun j hj => h j (by omega)), h k (by omega)]
theorem ld_cong {t t' : Page} {n : Nat} (h : ∀ j, j < n → t j = t' j) (h13 : 13 ≤ n) {H : Page} {k : Nat} (hk : 13 + 4 * k ≤ n) : ldN t (ldH t H) k = ldN t' (ldH t' H) k := by
  have e : ldH t H = ldH t' H := by
    unfold ldH latF
    rw [num_cong (t := t) (t' := t') 2 (fun j hj => h _ (by omega)), num_cong (t := t) (t' := t') 3 (fun j hj => h _ (by omega)), num_cong (t := t) (t' := t') (a := 7) 2 (fun j hj => h _ (by omega)), num_cong (t := t) (t' := t') 4 (fun j hj => h _ (by omega)), h 1 (by omega)]
  rw [e]
  exact ldN_cong k (fun j hj => num_cong 3 (fun x hx => h _ (by omega)))

theorem t_append {K : KS} {x : Int32} (a : Nat) (hx : x = nI a) (ha : a < 256) (hn : K.2.2.2.1 < 100) : Does (wp_L_tryAppend x) K (nI (K.2.2.2.1 + 1)) (K.1, K.2.1, K.2.2.1, (K.2.2.2.1 + 1, upd K.2.2.2.2 K.2.2.2.1 (nI a))) := by
  intro M Q R k
  obtain ⟨nw, hi, sl, ⟨h1, e109, et⟩⟩ := id R
  obtain ⟨g, H, S, ⟨n, t⟩⟩ := K
  dsimp only at nw hi sl h1 e109 et hn k
  have xi : x.toInt = a := by rw [hx, nI_toInt (by omega)]
  simp only [wp_L_tryAppend, wp_X4_append, forall_eq]
  rw [s_lt0, i32_le, d255, e109, show (100 : Int32) = nI 100 from rfl, nI_ltI (by omega) (by omega)]
  refine ⟨fun c => absurd c (by omega), fun c => ⟨fun c2 => ⟨fun c3 => ⟨vp_in_nI c3 (by decide), ?_⟩, fun c3 => absurd hn c3⟩, fun c2 => absurd (by omega) c2⟩⟩
  subst hx
  rw [char_id a ha, nI_clamp (by omega)]
  have e1 : mup M 110 n (nI a) 109 1 = nI n := by rw [mup_ne (by decide), e109]
  rw [e1, nI_1]
  have e2 : mup (mup M 110 n (nI a)) 109 1 (nI (n + 1)) 109 1 = nI (n + 1) := by rw [mup_self, updE, if_pos rfl]
  rw [e2]
  have a110 : ∀ j, mup (mup M 110 n (nI a)) 109 1 (nI (n + 1)) 110 j = if j = n then nI a else M 110 j := fun j => by
    rw [mup_ne (by decide), mup_self, updE]
  have am : ∀ c, c ≠ 109 → c ≠ 110 → mup (mup M 110 n (nI a)) 109 1 (nI (n + 1)) c = M c := fun c h1 h2 => by rw [mup_ne h1, mup_ne h2]
  refine k _ ⟨nw.fr (fun c hc => am c (by omega) (by omega)), hi.fr (fun c hc => am c (by omega) (by omega)), sl.fr (fun c hc => am c (by omega) (by omega)), ⟨by show n + 1 ≤ 100; omega, e2, fun j hj => ?_⟩⟩
  have hj' : j < n + 1 := hj
  show mup (mup M 110 n (nI a)) 109 1 (nI (n + 1)) 110 j = upd t n (nI a) j ∧ 0 ≤ (upd t n (nI a) j).toInt ∧ (upd t n (nI a) j).toInt ≤ 255
  rw [a110, updE]
  by_cases c : j = n
  · rw [if_pos c, if_pos c, nI_toInt (by omega)]
    exact ⟨rfl, by omega, by omega⟩
  · rw [if_neg c, if_neg c]
    exact et j (by omega)
theorem t_appendA {K : KS} {x : Int32} (hx : ¬ (0 ≤ x.toInt ∧ x.toInt ≤ 255)) : Does (wp_L_tryAppend x) K (-1002) K := by
  intro M Q R k
  simp only [wp_L_tryAppend, wp_X4_append, forall_eq]
  rw [s_lt0, i32_le, d255]
  exact ⟨fun c => ⟨fun _ => k _ R, fun z => absurd z (by decide), Or.inl trivial⟩, fun c => ⟨fun c2 => absurd ⟨by omega, c2⟩ hx, fun c2 => ⟨fun _ => k _ R, fun z => absurd z (by decide), Or.inl trivial⟩⟩⟩
theorem t_clear {K : KS} : Does wp_X4_clearText K (nI K.2.2.2.1) (K.1, K.2.1, K.2.2.1, (0, K.2.2.2.2)) := by
  intro M Q R k
  obtain ⟨nw, hi, sl, ⟨h1, e109, et⟩⟩ := id R
  simp only [wp_X4_clearText, forall_eq]
  rw [e109]
  have m : ∀ c, c ≠ 109 → mup M 109 1 0 c = M c := fun c h1 => mup_ne h1
  exact k _ ⟨nw.fr (fun c hc => m c (by omega)), hi.fr (fun c hc => m c (by omega)), sl.fr (fun c hc => m c (by omega)), ⟨by show 0 ≤ 100; decide, by rw [mup_self, updE, if_pos rfl]; rfl, fun j hj => absurd hj (by show ¬ j < 0; omega)⟩⟩
theorem t_err {K : KS} {s : Nat} (hs : errAt K.2.2.2.2 K.2.2.2.1 s) : Does wp_X4_errorPosition K (nI s) K := by
  intro M Q R k
  obtain ⟨-, -, -, ⟨h1, e109, et⟩⟩ := id R
  unfold wp_X4_errorPosition
  have ct : ∀ j, j < K.2.2.2.1 → M 110 j = K.2.2.2.2 j := fun j hj => (et j hj).1
  refine s_firstError h1 e109 rfl (fun s' hs' => ?_) (fun hu hcm => absurd ⟨hu.cong ct, hcm⟩ hs.not)
  have : s' = s := (hs'.cong ct).uniq hs
  subst this
  exact k _ R
theorem t_errN {K : KS} (hu : upTo K.2.2.2.2 K.2.2.2.1) (hc : compl K.2.2.2.1) : Does wp_X4_errorPosition K (-9) K := by
  intro M Q R k
  obtain ⟨-, -, -, ⟨h1, e109, et⟩⟩ := id R
  unfold wp_X4_errorPosition
  have ct : ∀ j, j < K.2.2.2.1 → M 110 j = K.2.2.2.2 j := fun j hj => (et j hj).1
  exact s_firstError h1 e109 rfl (fun s' hs' => absurd ⟨hu, hc⟩ (hs'.cong ct).not) (fun _ _ => k _ R)
theorem t_load {K : KS} (hu : upTo K.2.2.2.2 K.2.2.2.1) (hc : compl K.2.2.2.1) : Does wp_L_tryLoad K (nI ((K.2.2.2.1 - 13) / 4)) (ldN K.2.2.2.2 (ldG K.2.2.2.2 (fun _ => 0)) ((K.2.2.2.1 - 13) / 4), noH, (fun _ => none), K.2.2.2) := by
  intro M Q R k
  obtain ⟨-, ⟨fr, f1, f2, f3, -⟩, -, tx⟩ := id R
  obtain ⟨h1, e109, et⟩ := id tx
  obtain ⟨g, H, S, ⟨n, t⟩⟩ := K
  dsimp only at h1 e109 et tx hu hc k
  have ct : ∀ j, j < n → M 110 j = t j := fun j hj => (et j hj).1
  simp only [wp_L_tryLoad, forall_eq]
  refine s_load h1 e109 rfl (fun s hs => absurd ⟨hu, hc⟩ (hs.cong ct).not) (fun hu' hcm M1 h s1 m1 h1 h2 h3 h4 => ?_)
  have p20 : (n - 13) / 4 ≤ 20 ∧ 13 + 4 * ((n - 13) / 4) = n := by
    have a := hc.2
    have b := hc.1
    refine ⟨?_, by omega⟩
    by_cases c : n ≤ 93
    · omega
    · obtain ⟨-, -, -, -, -, x, -⟩ := hu 93 (by omega)
      omega
  have vL := Val_ldN (p := fun _ => 0) hu ((n - 13) / 4) p20.1 (by omega)
  have pL := PEq_ldN (t := t) (ldG_9 t (fun _ => 0)) (PEq_ldH (t := t) (h := h) (p := fun _ => 0)) ((n - 13) / 4) p20.1
  rw [ld_cong ct hc.1 (by omega)] at s1
  refine k _ ⟨⟨⟨_, s1, pL⟩, vL⟩, ⟨fr, f1, Nat.zero_le _, by rw [h1]; exact f3, h2, fun t ht => absurd ht (by show ¬ t < 0; omega)⟩, fun i hi => ⟨fun x hx => absurd hx (by simp), fun _ => ?_⟩, tx.fr (fun c hc => m1 c (by omega) (by omega) (by omega))⟩
  rcases (show i = 0 ∨ i = 1 by omega) with z | z <;> subst z
  · exact h3
  · exact h4
theorem t_loadS {K : KS} {s : Nat} (hs : errAt K.2.2.2.2 K.2.2.2.1 s) : Does wp_L_tryLoad K (-1003) K := by
  intro M Q R k
  obtain ⟨-, -, -, ⟨h1, e109, et⟩⟩ := id R
  have ct : ∀ j, j < K.2.2.2.1 → M 110 j = K.2.2.2.2 j := fun j hj => (et j hj).1
  simp only [wp_L_tryLoad, forall_eq]
  exact s_load h1 e109 rfl (fun s' hs' => ⟨fun _ => k _ R, rfl⟩) (fun hu hcm M1 h s1 m1 h1 h2 h3 h4 => absurd ⟨hu.cong ct, hcm⟩ hs.not)

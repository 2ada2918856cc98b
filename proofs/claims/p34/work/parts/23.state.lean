/-! WHAT THE STATE's METHODS DO -/
theorem nI_of_toInt {x : Int32} (h : 0 ≤ x.toInt) : x = nI x.toInt.toNat := by
  rw [i32_eq, nI_toInt (by have := i32_hi x; omega)]
  omega
theorem i32_le {x y : Int32} : x ≤ y ↔ x.toInt ≤ y.toInt := Int32.le_iff_toInt_le
theorem i32_lt {x y : Int32} : x < y ↔ x.toInt < y.toInt := Int32.lt_iff_toInt_lt
theorem nI_mul (a b : Nat) : nI a * nI b = nI (a * b) := by simp [nI]
theorem nI_lit2 (a : Nat) : 2 * nI a = nI (2 * a) := nI_mul 2 a
theorem nI_lit3 (a : Nat) : 3 * nI a = nI (3 * a) := nI_mul 3 a
theorem nI_add1 (a : Nat) : nI a + 1 = nI (a + 1) := nI_1 a
theorem nI_add2 (a : Nat) : nI a + 2 = nI (a + 2) := nI_add a 2
theorem nI_12 (a : Nat) : 12 + nI a = nI (12 + a) := nI_add 12 a
def St (M : Mem) (i : Nat) (h : Page) : Prop := pv M i = h ∧ 0 ≤ (M (6 * i) 9).toInt ∧ (M (6 * i) 9).toInt < 20
theorem St.at {M : Mem} {i : Nat} {h : Page} (s : St M i h) (j : Nat) : h j = pv M i j := by rw [s.1]
theorem St.dir {M : Mem} {i : Nat} {h : Page} (s : St M i h) : M (6 * i) 1 = h 5 := (s.at 5).symm
theorem St.rest {M : Mem} {i : Nat} {h : Page} (s : St M i h) : M (6 * i) 2 = h 6 := (s.at 6).symm
theorem St.height {M : Mem} {i : Nat} {h : Page} (s : St M i h) : M (6 * i) 3 = h 7 := (s.at 7).symm
theorem St.clock {M : Mem} {i : Nat} {h : Page} (s : St M i h) : M (6 * i) 4 = h 8 := (s.at 8).symm
theorem St.pins {M : Mem} {i : Nat} {h : Page} (s : St M i h) : M (6 * i) 5 = h 9 := (s.at 9).symm
theorem St.hits {M : Mem} {i : Nat} {h : Page} (s : St M i h) : M (6 * i) 8 = h 10 := (s.at 10).symm
theorem St.reads {M : Mem} {i : Nat} {h : Page} (s : St M i h) : M (6 * i) 11 = h 11 := (s.at 11).symm
theorem St.set {M : Mem} {i : Nat} {h : Page} (s : St M i h) {j : Nat} (hj : j < 5) : M (6 * i + 1) j = h j := by
  rw [s.at j]; simp [pv, hj]
theorem St.place {M : Mem} {i : Nat} {h : Page} (s : St M i h) {k : Nat} (hk : k < 40) : M (6 * i + 2) k = h (12 + 2 * k) := by
  rw [s.at (12 + 2 * k)]
  unfold pv
  rw [if_neg (by omega), if_neg (by omega), if_neg (by omega), if_neg (by omega), if_pos (by omega), if_pos (by omega), show (12 + 2 * k - 12) / 2 = k by omega]
theorem St.stand {M : Mem} {i : Nat} {h : Page} (s : St M i h) {k : Nat} (hk : k < 40) : M (6 * i + 3) k = h (13 + 2 * k) := by
  rw [s.at (13 + 2 * k)]
  unfold pv
  rw [if_neg (by omega), if_neg (by omega), if_neg (by omega), if_neg (by omega), if_pos (by omega), if_neg (by omega), show (13 + 2 * k - 12) / 2 = k by omega]
theorem St.row {M : Mem} {i : Nat} {h : Page} (s : St M i h) {k : Nat} (hk : k < 60) : M (6 * i + 5) k = h (152 + k) := by
  rw [s.at (152 + k)]
  unfold pv
  rw [if_neg (by omega), if_neg (by omega), if_neg (by omega), if_neg (by omega), if_neg (by omega), if_neg (by omega), if_pos (by omega), show 152 + k - 152 = k by omega]
theorem St.of {M M' : Mem} {i : Nat} {h h' : Page} (s : St M i h) (e : pv M' i = h') (l : M' (6 * i) 9 = M (6 * i) 9) : St M' i h' := ⟨e, by rw [l]; exact s.2.1, by rw [l]; exact s.2.2⟩
theorem St.f {M : Mem} {i : Nat} {h : Page} (s : St M i h) {k : Nat} (v : Int32) (h1 : 1 ≤ k) (h5 : k ≤ 5) : St (mup M (6 * i) k v) i (upd h (k + 4) v) := s.of (by rw [pv_f h1 h5, s.1]) (by rw [mup_eq, if_neg (by omega)])
theorem St.hits' {M : Mem} {i : Nat} {h : Page} (s : St M i h) (v : Int32) : St (mup M (6 * i) 8 v) i (upd h 10 v) := s.of (by rw [pv_hits, s.1]) (by rw [mup_eq, if_neg (by omega)])
theorem St.reads' {M : Mem} {i : Nat} {h : Page} (s : St M i h) (v : Int32) : St (mup M (6 * i) 11 v) i (upd h 11 v) := s.of (by rw [pv_reads, s.1]) (by rw [mup_eq, if_neg (by omega)])
theorem St.set' {M : Mem} {i : Nat} {h : Page} (s : St M i h) {k : Nat} (hk : k < 5) (v : Int32) : St (mup M (6 * i + 1) k v) i (upd h k v) := s.of (by rw [pv_set hk, s.1]) (by rw [mup_eq, if_neg (by omega)])
theorem St.place' {M : Mem} {i : Nat} {h : Page} (s : St M i h) {k : Nat} (hk : k < 40) (v : Int32) : St (mup M (6 * i + 2) k v) i (upd h (12 + 2 * k) v) := s.of (by rw [pv_place hk, s.1]) (by rw [mup_eq, if_neg (by omega)])
theorem St.stand' {M : Mem} {i : Nat} {h : Page} (s : St M i h) {k : Nat} (hk : k < 40) (v : Int32) : St (mup M (6 * i + 3) k v) i (upd h (13 + 2 * k) v) := s.of (by rw [pv_stand hk, s.1]) (by rw [mup_eq, if_neg (by omega)])
theorem St.row' {M : Mem} {i : Nat} {h : Page} (s : St M i h) {k : Nat} (hk : k < 60) (v : Int32) : St (mup M (6 * i + 5) k v) i (upd h (152 + k) v) := s.of (by rw [pv_row hk, s.1]) (by rw [mup_eq, if_neg (by omega)])
theorem St.frame {M M' : Mem} {i j : Nat} {h : Page} (s : St M j h) (f : FrS M M' i) (hij : i ≠ j) : St M' j h := by
  refine ⟨by rw [f.pv hij, s.1], ?_⟩
  rw [f (6 * j) (by omega)]
  exact s.2
theorem St.frame' {M M' : Mem} {j : Nat} {h : Page} (s : St M j h) (f : ∀ r, r < 6 → M' (6 * j + r) = M (6 * j + r)) : St M' j h := by
  refine ⟨by rw [pv_cong f, s.1], ?_⟩
  have := f 0 (by decide)
  rw [Nat.add_zero] at this
  rw [this]
  exact s.2
theorem s_around {x : Int32} {M : Mem} {Q : Int32 → Mem → Prop} (k : Q (aroundF x) M) : wp_X4_around x M Q := by
  simp only [wp_X4_around, forall_eq]
  unfold aroundF at k
  constructor
  · intro h; rw [if_pos h] at k; exact k
  · intro h; rw [if_neg h] at k; exact k
theorem s_unit {i : Nat} {h : Page} {M : Mem} {Q : Int32 → Mem → Prop} (s : St M i h) (k : Q (1000 * h 1) M) : wp_X2_unit i M Q := by
  simp only [wp_X2_unit, forall_eq]
  rw [s.set (by decide)]
  exact k
theorem s_gain {i : Nat} {h : Page} {a : Int32} {M : Mem} {Q : Mem → Prop} (s : St M i h) (k : ∀ M', St M' i (gainF h a) → FrS M M' i → Q M') : wp_X2_gainHeight i a M Q := by
  simp only [wp_X2_gainHeight, forall_eq]
  rw [s.height]
  exact k _ (s.f _ (by decide) (by decide)) FrS_mup0
theorem s_lose {i : Nat} {h : Page} {a : Int32} {M : Mem} {Q : Mem → Prop} (s : St M i h) (k : ∀ M', St M' i (loseF h a) → FrS M M' i → Q M') : wp_X2_loseHeight i a M Q := by
  simp only [wp_X2_loseHeight, forall_eq]
  rw [s.height]
  exact k _ (s.f _ (by decide) (by decide)) FrS_mup0
theorem s_aside {i : Nat} {h : Page} {a : Int32} {M : Mem} {Q : Mem → Prop} (s : St M i h) (k : ∀ M', St M' i (nudgeF h a) → FrS M M' i → Q M') : wp_X2_turnAside i a M Q := by
  simp only [wp_X2_turnAside, forall_eq]
  rw [s.dir]
  refine s_around ?_
  refine s_lose (s.f _ (k := 1) (by decide) (by decide)) (fun M' s1 f1 => ?_)
  exact k _ (s1.f _ (k := 2) (by decide) (by decide)) ((FrS_mup0.trans f1).trans FrS_mup0)
theorem s_setting {i : Nat} {h : Page} {w : Nat} {v : Int32} {M : Mem} {Q : Mem → Prop} (hw : w < 5) (s : St M i h) (k : ∀ M', St M' i (setF h w v) → FrS M M' i → Q M') : wp_X2_changeSetting i (nI w) v M Q := by
  simp only [wp_X2_changeSetting, forall_eq]
  rw [nI_clamp (by omega)]
  refine ⟨vp_in_nI hw (by decide), fun h1 => ?_, fun h1 => ?_⟩
  · refine k _ ?_ (FrS_mup (by decide))
    have : w ≠ 1 := by rintro rfl; exact h1 rfl
    rw [setF, if_neg this]
    exact s.set' hw v
  · have : w = 1 := (nI_eq (by omega) (by decide)).mp h1
    subst this
    exact k _ ((s.set' hw v).f _ (k := 2) (by decide) (by decide)) ((FrS_mup (by decide)).trans FrS_mup0)
theorem pinGo_step (g : Page) (p : Int32) (f k : Nat) : pinGo g p (f + 1) k = if g (12 + 2 * k) = p then nI k else pinGo g p f (k + 1) := rfl
theorem s_pinAt {i : Nat} {h : Page} {p : Int32} {M : Mem} {Q : Int32 → Mem → Prop} (s : St M i h) (hn : 0 ≤ (h 9).toInt ∧ (h 9).toInt ≤ 40) (k : Q (pinF h p) M) : wp_X2_pinAt i p M Q := by
  have e9 : h 9 = nI (pn h) := nI_of_toInt hn.1
  have hp : pn h ≤ 40 := by unfold pn; omega
  refine ⟨fun w M' => M' = M ∧ ∃ j, j ≤ pn h ∧ w = nI j ∧ pinF h p = pinGo h p (pn h - j) j, fun w _ => 100 - w.toNatClampNeg, ⟨rfl, 0, Nat.zero_le _, rfl, rfl⟩, ?_⟩
  rintro w M' ⟨rfl, j, hj, rfl, hr⟩
  simp only [forall_eq]
  rw [s.pins, e9, nI_clamp (by omega)]
  refine ⟨fun h1 => ?_, fun h1 => ?_⟩
  · rw [nI_leI (by omega) (by omega)] at h1
    have : pn h - j = 0 := by omega
    rw [this] at hr
    rw [hr] at k
    exact k
  · rw [nI_leI (by omega) (by omega)] at h1
    have e : pn h - j = (pn h - (j + 1)) + 1 := by omega
    rw [e, pinGo_step] at hr
    rw [s.place (by omega)]
    refine ⟨vp_in_nI (by omega) (by decide), fun h2 => ?_, fun h2 => ?_⟩
    · rw [if_neg h2] at hr
      refine ⟨⟨trivial, j + 1, by omega, nI_1 j, hr⟩, ?_⟩
      rw [nI_1, nI_clamp (by omega)]
      omega
    · rw [if_pos h2] at hr
      rw [hr] at k
      exact k
theorem s_standing {i : Nat} {h : Page} {M : Mem} {Q : Int32 → Mem → Prop} (s : St M i h) (hn : 0 ≤ (h 9).toInt ∧ (h 9).toInt ≤ 40) (k : Q (standF h) M) : wp_X2_standing i M Q := by
  have e9 : h 9 = nI (pn h) := nI_of_toInt hn.1
  have hp : pn h ≤ 40 := by unfold pn; omega
  refine ⟨fun w a M' => M' = M ∧ ∃ j, j ≤ pn h ∧ w = nI j ∧ a = sumGo h j, fun w _ _ => 100 - w.toNatClampNeg, ⟨rfl, 0, Nat.zero_le _, rfl, rfl⟩, ?_⟩
  rintro w a M' ⟨rfl, j, hj, rfl, rfl⟩
  simp only [forall_eq]
  rw [s.pins, e9, nI_clamp (by omega), nI_leI (by omega) (by omega)]
  refine ⟨fun h1 => ?_, fun h1 => ?_⟩
  · have : j = pn h := by omega
    subst this
    exact k
  · rw [s.stand (by omega)]
    refine ⟨vp_in_nI (by omega) (by decide), ⟨trivial, j + 1, by omega, nI_1 j, rfl⟩, ?_⟩
    rw [nI_1, nI_clamp (by omega)]
    omega
def raiseTo (h : Page) (j : Nat) : Page := fun x => if 12 ≤ x ∧ x < 12 + 2 * j ∧ x % 2 = 1 then 1 else h x
theorem raiseTo_step (h : Page) (j : Nat) : upd (raiseTo h j) (13 + 2 * j) 1 = raiseTo h (j + 1) := by
  funext x
  simp only [upd, raiseTo]
  (repeat' split) <;> first | rfl | (exfalso; omega)
theorem raiseTo_zero (h : Page) : raiseTo h 0 = h := by
  funext x
  simp only [raiseTo]
  rw [if_neg (by omega)]
theorem s_standAll {i : Nat} {h : Page} {M : Mem} {Q : Mem → Prop} (s : St M i h) (hn : 0 ≤ (h 9).toInt ∧ (h 9).toInt ≤ 40) (k : ∀ M', St M' i (raiseF h) → FrS M M' i → Q M') : wp_X2_standAllPins i M Q := by
  have e9 : h 9 = nI (pn h) := nI_of_toInt hn.1
  have hp : pn h ≤ 40 := by unfold pn; omega
  refine ⟨fun w M' => ∃ j, j ≤ pn h ∧ w = nI j ∧ St M' i (raiseTo h j) ∧ FrS M M' i, fun w _ => 100 - w.toNatClampNeg, ⟨0, Nat.zero_le _, rfl, by rw [raiseTo_zero]; exact s, FrS.rfl'⟩, ?_⟩
  rintro w M' ⟨j, hj, rfl, s1, f1⟩
  simp only [forall_eq]
  have e9' : M' (6 * i) 5 = nI (pn h) := by
    rw [s1.pins, ← e9]
    simp [raiseTo]
  rw [e9', nI_clamp (by omega), nI_leI (by omega) (by omega)]
  refine ⟨fun h1 => ?_, fun h1 => ?_⟩
  · have : j = pn h := by omega
    subst this
    exact k _ s1 f1
  · have s2 := s1.stand' (k := j) (by omega) 1
    rw [raiseTo_step] at s2
    refine ⟨vp_in_nI (by omega) (by decide), ⟨j + 1, by omega, nI_1 j, s2, f1.trans (FrS_mup (by decide))⟩, ?_⟩
    rw [nI_1, nI_clamp (by omega)]
    omega
theorem s_putPin {i : Nat} {h : Page} {p : Int32} {M : Mem} {Q : Mem → Prop} (s : St M i h) (hn : 0 ≤ (h 9).toInt ∧ (h 9).toInt < 40) (k : ∀ M', St M' i (putF h p) → FrS M M' i → Q M') : wp_X2_putPin i p M Q := by
  have e9 : h 9 = nI (pn h) := nI_of_toInt hn.1
  have hp : pn h < 40 := by unfold pn; omega
  have a1 := s.place' hp p
  have a2 := a1.stand' hp 1
  have p1 : ∀ (v : Int32), mup M (6 * i + 2) (pn h) v (6 * i) 5 = nI (pn h) := fun v => by rw [mup_eq, if_neg (by omega), s.pins, e9]
  simp only [wp_X2_putPin, forall_eq]
  rw [s.pins, e9, nI_clamp (by omega), show (40 : Int32) = nI 40 from rfl, nI_leI (by omega) (by omega)]
  refine ⟨fun h1 => absurd h1 (by omega), fun _ => ⟨vp_in_nI hp (by decide), ?_⟩⟩
  rw [p1, nI_clamp (by omega)]
  refine ⟨vp_in_nI hp (by decide), ?_⟩
  rw [a2.pins]
  refine k _ ?_ (((FrS_mup (by decide)).trans (FrS_mup (by decide))).trans FrS_mup0)
  have a3 := a2.f (k := 5) (upd (upd h (12 + 2 * pn h) p) (13 + 2 * pn h) 1 9 + 1) (by decide) (by decide)
  have e : upd (upd h (12 + 2 * pn h) p) (13 + 2 * pn h) 1 9 = h 9 := by
    simp only [upd]
    rw [if_neg (by omega), if_neg (by omega)]
  rw [e] at a3 ⊢
  exact a3

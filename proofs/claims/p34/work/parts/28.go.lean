/-! THE MOTION: the way to the next pin, and going -/
def sg (h : Page) : Int := if 0 ≤ (sinF (h 0)).toInt then 1 else -1
def gd (h : Page) (j : Nat) : Int := (sg h * ((h (12 + 2 * j)).toInt - (h 5).toInt)) % 10800
def Gap (h : Page) (p : Int32) : Prop := 1 ≤ p.toInt ∧ p.toInt ≤ 10800 ∧ ∀ j, j < pn h → h (13 + 2 * j) = 1 → gd h j = 0 ∨ p.toInt ≤ gd h j
def Mot (M : Mem) (k : Nat) (h : Page) (f : Int32) : Prop := M (111 + k) 1 = 900 * sinF (h 0) ∧ M (111 + k) 2 = 1000 * h 1 ∧ M (111 + k) 4 = f ∧ Gap h (M (111 + k) 3)
def FrM (M M' : Mem) (k : Nat) : Prop := ∀ c, (c < 6 * k ∨ 6 * k + 6 ≤ c) → c ≠ 111 + k → M' c = M c
theorem FrM.rfl' {M : Mem} {k : Nat} : FrM M M k := fun _ _ _ => rfl
theorem FrM.trans {M M1 M2 : Mem} {k : Nat} (h1 : FrM M M1 k) (h2 : FrM M1 M2 k) : FrM M M2 k := fun c a b => (h2 c a b).trans (h1 c a b)
theorem FrS.M {M M' : Mem} {k : Nat} (h : FrS M M' k) : FrM M M' k := fun c a _ => h c a
theorem FrM_mup {M : Mem} {k j : Nat} {v : Int32} : FrM M (mup M (111 + k) j v) k := fun c _ b => mup_ne b
theorem FrS.mo {M M' : Mem} {k : Nat} (h : FrS M M' k) (hk : k < 2) : M' (111 + k) = M (111 + k) := h _ (by omega)
theorem St.mo {M : Mem} {k j : Nat} {h : Page} {v : Int32} (s : St M k h) (hk : k < 2) : St (mup M (111 + k) j v) k h := s.frame' fun r hr => mup_ne (by omega)
def PinsOK (g : Page) : Prop := (0 ≤ (g 9).toInt ∧ (g 9).toInt ≤ 40) ∧ ∀ k, k < pn g → 0 ≤ (g (12 + 2 * k)).toInt ∧ (g (12 + 2 * k)).toInt < 10800 ∧ (g (13 + 2 * k) = 0 ∨ g (13 + 2 * k) = 1)
theorem Val.pins {g : Page} (v : Val g) : PinsOK g := by
  obtain ⟨-, -, -, -, -, -, -, -, v9, -, -, vp, -⟩ := id v
  exact ⟨v9, vp⟩
theorem PinsOK.u6 {g : Page} {y : Int32} (v : PinsOK g) : PinsOK (upd g 6 y) := by
  have e : ∀ j, j ≠ 6 → upd g 6 y j = g j := fun j hj => by rw [updE, if_neg hj]
  have ep : pn (upd g 6 y) = pn g := by unfold pn; rw [e 9 (by decide)]
  refine ⟨by rw [e 9 (by decide)]; exact v.1, fun k hk => ?_⟩
  rw [ep] at hk
  rw [e _ (by omega), e _ (by omega)]
  exact v.2 k hk
theorem step_full0 {g : Page} (v : PinsOK g) (b : Int32) : (pinF (upd g 5 (aroundF (g 5 + b))) (aroundF (g 5 + b)) = -9 ∧ stepF b g = (upd g 5 (aroundF (g 5 + b)), 0, -9)) ∨
    ∃ kk, kk < pn g ∧ pinF (upd g 5 (aroundF (g 5 + b))) (aroundF (g 5 + b)) = nI kk ∧ g (12 + 2 * kk) = aroundF (g 5 + b) ∧ ((g (13 + 2 * kk) ≠ 1 ∧ stepF b g = (upd g 5 (aroundF (g 5 + b)), 0, -9)) ∨ (g (13 + 2 * kk) = 1 ∧ g 7 < g 3 ∧ stepF b g = (upd g 5 (aroundF (g 5 + b)), 0, -9)) ∨ (g (13 + 2 * kk) = 1 ∧ ¬ g 7 < g 3 ∧ stepF b g = (hitF (upd g 5 (aroundF (g 5 + b))) kk, 1, nI kk))) := by
  obtain ⟨v9, vp⟩ := id v
  have hp : pn g ≤ 40 := by unfold pn; omega
  have e9 : pn (upd g 5 (aroundF (g 5 + b))) = pn g := by unfold pn; rw [updE, if_neg (by omega)]
  have e5 : upd g 5 (aroundF (g 5 + b)) 5 = aroundF (g 5 + b) := by rw [updE, if_pos rfl]
  unfold stepF
  simp only [e5]
  rcases pinGo_spec (upd g 5 (aroundF (g 5 + b))) (aroundF (g 5 + b)) (pn (upd g 5 (aroundF (g 5 + b)))) 0 with ⟨h1, -⟩ | ⟨kk, -, h2, h3, h4, -⟩
  · left
    exact ⟨h1, by rw [if_pos (show pinF _ _ = -9 from h1)]⟩
  · right
    rw [e9] at h2
    have hkk : kk < pn g := by omega
    have ep : pinF (upd g 5 (aroundF (g 5 + b))) (aroundF (g 5 + b)) = nI kk := h3
    refine ⟨kk, hkk, ep, by rw [updE, if_neg (by omega)] at h4; exact h4, ?_⟩
    rw [ep, nI_clamp (by omega)]
    have hne : ¬ nI kk = -9 := by
      rw [i32_eq, nI_toInt (by omega)]
      have : (-9 : Int32).toInt = -9 := rfl
      omega
    rw [if_neg hne]
    have r1 : upd g 5 (aroundF (g 5 + b)) (13 + 2 * kk) = g (13 + 2 * kk) := by rw [updE, if_neg (by omega)]
    have r2 : upd g 5 (aroundF (g 5 + b)) 7 = g 7 := by rw [updE, if_neg (by omega)]
    have r3 : upd g 5 (aroundF (g 5 + b)) 3 = g 3 := by rw [updE, if_neg (by omega)]
    rw [r1, r2, r3]
    rcases (vp kk hkk).2.2 with c | c
    · left; exact ⟨by rw [c]; decide, by rw [if_pos c]⟩
    · have c0 : ¬ g (13 + 2 * kk) = 0 := by rw [c]; decide
      by_cases c2 : g 7 < g 3
      · right; left; exact ⟨c, c2, by rw [if_neg c0, if_pos c2]⟩
      · right; right; exact ⟨c, c2, by rw [if_neg c0, if_neg c2]⟩
theorem step_full {g : Page} (v : Val g) (b : Int32) : (pinF (upd g 5 (aroundF (g 5 + b))) (aroundF (g 5 + b)) = -9 ∧ stepF b g = (upd g 5 (aroundF (g 5 + b)), 0, -9)) ∨
    ∃ kk, kk < pn g ∧ pinF (upd g 5 (aroundF (g 5 + b))) (aroundF (g 5 + b)) = nI kk ∧ g (12 + 2 * kk) = aroundF (g 5 + b) ∧ ((g (13 + 2 * kk) ≠ 1 ∧ stepF b g = (upd g 5 (aroundF (g 5 + b)), 0, -9)) ∨ (g (13 + 2 * kk) = 1 ∧ g 7 < g 3 ∧ stepF b g = (upd g 5 (aroundF (g 5 + b)), 0, -9)) ∨ (g (13 + 2 * kk) = 1 ∧ ¬ g 7 < g 3 ∧ stepF b g = (hitF (upd g 5 (aroundF (g 5 + b))) kk, 1, nI kk))) := step_full0 v.pins b
theorem i900 {x : Int32} (h : -1000 ≤ x.toInt ∧ x.toInt ≤ 1000) : (900 * x).toInt = 900 * x.toInt := by
  have e : (900 : Int32).toInt = 900 := rfl
  rw [i32_mul (by rw [e]; omega) (by rw [e]; omega), e]
theorem s_gapAhead {k : Nat} {h : Page} {M : Mem} {Q : Int32 → Mem → Prop} (s : St M k h) (v : Val h) (hs : M (111 + k) 1 = 900 * sinF (h 0)) (kk : ∀ p, Gap h p → Q p M) : wp_X1_gapAhead k M Q := by
  obtain ⟨v0, -, -, -, -, v5, -, -, v9, -, -, vp, -⟩ := id v
  have e9 : h 9 = nI (pn h) := nI_of_toInt v9.1
  have hp : pn h ≤ 40 := by unfold pn; omega
  have hsp : (M (111 + k) 1).toInt = 900 * (sinF (h 0)).toInt := by rw [hs]; exact i900 (sinF_bound v0.1 v0.2)
  have d10800 : (10800 : Int32).toInt = 10800 := rfl
  refine ⟨fun w p M' => M' = M ∧ ∃ j, j ≤ pn h ∧ w = nI j ∧ 1 ≤ p.toInt ∧ p.toInt ≤ 10800 ∧ ∀ a, a < j → h (13 + 2 * a) = 1 → gd h a = 0 ∨ p.toInt ≤ gd h a, fun w _ _ => 100 - w.toNatClampNeg, ⟨rfl, 0, Nat.zero_le _, rfl, by decide, by decide, fun a ha => absurd ha (by omega)⟩, ?_⟩
  rintro w p M' ⟨rfl, j, hj, rfl, p1, p2, hg⟩
  simp only [forall_eq]
  rw [s.pins, e9, nI_clamp (by omega), nI_leI (by omega) (by omega)]
  refine ⟨fun c => ?_, fun c => ?_⟩
  · have : j = pn h := by omega
    subst this
    exact kk p ⟨p1, p2, hg⟩
  · have hj40 : j < 40 := by omega
    have hjp : j < pn h := by omega
    obtain ⟨q1, q2, -⟩ := vp j hjp
    refine ⟨vp_in_nI hj40 (by decide), ?_⟩
    rw [s.place hj40, s.dir]
    have eg : (aroundF (h (12 + 2 * j) - h 5)).toInt = ((h (12 + 2 * j)).toInt - (h 5).toInt) % 10800 := by
      rw [aroundF_toInt, i32_sub (by omega) (by omega)]
    have next : ∀ (q : Int32), 1 ≤ q.toInt → q.toInt ≤ p.toInt → (h (13 + 2 * j) = 1 → gd h j = 0 ∨ q.toInt ≤ gd h j) → (M' = M' ∧ ∃ a, a ≤ pn h ∧ nI j + 1 = nI a ∧ 1 ≤ q.toInt ∧ q.toInt ≤ 10800 ∧ ∀ b, b < a → h (13 + 2 * b) = 1 → gd h b = 0 ∨ q.toInt ≤ gd h b) ∧ 100 - (nI j + 1).toNatClampNeg < 100 - (nI j).toNatClampNeg := by
      intro q hq1 hq2 hq3
      refine ⟨⟨rfl, j + 1, by omega, nI_1 j, hq1, by omega, fun b hb h1 => ?_⟩, ?_⟩
      · by_cases hbj : b = j
        · subst hbj; exact hq3 h1
        · rcases hg b (by omega) h1 with z | z
          · exact Or.inl z
          · exact Or.inr (by omega)
      · rw [nI_1, nI_clamp (by omega), nI_clamp (by omega)]
        omega
    rw [nI_clamp (by omega)] at next
    have mn : ∀ r : Int32, 0 < r.toInt → r.toInt = gd h j → 1 ≤ (if r < p then r else p).toInt ∧ (if r < p then r else p).toInt ≤ p.toInt ∧ (if r < p then r else p).toInt ≤ gd h j := by
      intro r r1 r2
      split
      · rename_i c1; rw [i32_lt] at c1; omega
      · rename_i c1; rw [i32_lt] at c1; omega
    refine s_around ?_
    rw [s.stand hj40]
    refine ⟨fun c1 => ?_, fun c1 => ?_⟩
    · rw [i32_le, hsp, i0] at c1
      have es : gd h j = (aroundF (h (12 + 2 * j) - h 5)).toInt := by
        rw [eg]; unfold gd sg; rw [if_pos (by omega), Int.one_mul]
      refine ⟨vp_in_nI hj40 (by decide), fun c2 => next p p1 (Int.le_refl _) (fun z => absurd z c2), fun c2 => ⟨fun c3 => ?_, fun c3 => ?_⟩⟩
      · rw [i32_le, i0] at c3
        have := aroundF_rng (h (12 + 2 * j) - h 5)
        exact next p p1 (Int.le_refl _) (fun _ => Or.inl (by omega))
      · rw [i32_le, i0] at c3
        obtain ⟨m1, m2, m3⟩ := mn _ (by omega) es.symm
        exact next _ m1 m2 (fun _ => Or.inr m3)
    · rw [i32_le, hsp, i0] at c1
      refine s_around ?_
      rw [s.stand hj40]
      have ra := aroundF_rng (h (12 + 2 * j) - h 5)
      have es : gd h j = (aroundF (-(aroundF (h (12 + 2 * j) - h 5)))).toInt := by
        rw [aroundF_toInt, i32_neg (by omega), eg]
        unfold gd sg
        rw [if_neg (by omega)]
        omega
      have ra2 := aroundF_rng (-(aroundF (h (12 + 2 * j) - h 5)))
      refine ⟨vp_in_nI hj40 (by decide), fun c2 => next p p1 (Int.le_refl _) (fun z => absurd z c2), fun c2 => ⟨fun c3 => ?_, fun c3 => ?_⟩⟩
      · rw [i32_le, i0] at c3
        exact next p p1 (Int.le_refl _) (fun _ => Or.inl (by omega))
      · rw [i32_le, i0] at c3
        obtain ⟨m1, m2, m3⟩ := mn _ (by omega) es.symm
        exact next _ m1 m2 (fun _ => Or.inr m3)
/-- a page some minutes on -/
def onP (h : Page) (n : Nat) : Page := upd h 5 (Int32.ofInt (((h 5).toInt + sg h * n) % 10800))
theorem onP_5 (h : Page) (n : Nat) : (onP h n 5).toInt = ((h 5).toInt + sg h * n) % 10800 := by
  unfold onP
  rw [updE, if_pos rfl]
  exact i32_ofInt (by omega) (by omega)
theorem sg_cases (h : Page) : sg h = 1 ∨ sg h = -1 := by
  unfold sg; split <;> simp
theorem onP_ne (h : Page) (n : Nat) {j : Nat} (hj : j ≠ 5) : onP h n j = h j := by unfold onP; rw [updE, if_neg hj]
theorem Val_on {h : Page} (v : Val h) (n : Nat) : Val (onP h n) := Val_5 v (by rw [i32_ofInt (by omega) (by omega)]; omega)
theorem stepN_skip {h : Page} (v : Val h) {p b f : Int32} (hg : Gap h p) (hb : b.toInt = sg h) : ∀ n : Nat, (n : Int) < p.toInt → stepN b n (h, 0, f) = (onP h n, 0, f) := by
  obtain ⟨-, -, -, -, -, v5, -⟩ := id v
  intro n
  induction n with
  | zero =>
    intro _
    have : onP h 0 = h := by
      funext x
      unfold onP
      rw [updE]
      split
      · rename_i hx
        subst hx
        rw [i32_eq, i32_ofInt (by omega) (by omega)]
        omega
      · rfl
    rw [this]
    rfl
  | succ n ih =>
    intro hn
    have ihn := ih (by omega)
    have vn := Val_on v n
    have ed : aroundF (onP h n 5 + b) = Int32.ofInt (((h 5).toInt + sg h * (n + 1 : Nat)) % 10800) := by
      have := onP_5 h n
      rw [i32_eq, aroundF_toInt, i32_ofInt (by omega) (by omega), i32_add (by rw [hb]; rcases sg_cases h with z | z <;> omega) (by rw [hb]; rcases sg_cases h with z | z <;> omega), this, hb]
      rcases sg_cases h with z | z <;> rw [z] <;> omega
    have es : stepF b (onP h n) = (onP h (n + 1), 0, -9) := by
      have eu : upd (onP h n) 5 (aroundF (onP h n 5 + b)) = onP h (n + 1) := by
        rw [ed]
        funext x
        unfold onP
        simp only [updE]
        split <;> rfl
      rcases step_cases vn b with e | ⟨kk, hkk, h1, h2, -, -⟩
      · rw [e, eu]
      · exfalso
        have hkk' : kk < pn h := by
          have : pn (onP h n) = pn h := by unfold pn; rw [onP_ne h n (by decide)]
          omega
        rw [onP_ne h n (by omega)] at h1 h2
        have hd : gd h kk = (n : Int) + 1 := by
          unfold gd
          rw [h1, ed, i32_ofInt (by omega) (by omega)]
          have := hg.2.1
          rcases sg_cases h with z | z <;> rw [z] <;> omega
        rcases hg.2.2 kk hkk' h2 with z | z <;> omega
    show (let t := stepN b n (h, 0, f); let r := stepF b t.1; (r.1, t.2.1 + r.2.1, if t.2.2 = -9 then r.2.2 else t.2.2)) = _
    rw [ihn]
    simp only [es]
    have : (if f = -9 then (-9 : Int32) else f) = f := by split <;> simp_all
    rw [this]
    rfl
theorem Gap_on {h : Page} (v : Val h) {p q : Int32} (hg : Gap h p) {n : Nat} (hn : (n : Int) < p.toInt) (hq : q.toInt = p.toInt - n) : Gap (onP h n) q := by
  obtain ⟨g1, g2, g3⟩ := hg
  refine ⟨by omega, by omega, fun j hj hs => ?_⟩
  have hj' : j < pn h := by
    have : pn (onP h n) = pn h := by unfold pn; rw [onP_ne h n (by decide)]
    omega
  rw [onP_ne h n (by omega)] at hs
  have e : gd (onP h n) j = (gd h j - n) % 10800 := by
    unfold gd
    have : sg (onP h n) = sg h := by unfold sg; rw [onP_ne h n (by decide)]
    rw [this, onP_5, onP_ne h n (by omega)]
    rcases sg_cases h with z | z <;> rw [z] <;> omega
  have gb : 0 ≤ gd h j ∧ gd h j < 10800 := by unfold gd; omega
  rw [e]
  rcases g3 j hj' hs with z | z
  · rw [z]; omega
  · right; omega

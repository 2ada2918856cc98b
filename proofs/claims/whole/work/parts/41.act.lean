/-! ACTS: THE HISTORY ON BOTH SIDES -/
theorem PEq.trans {a b c : Page} (e1 : PEq a b) (e2 : PEq b c) : PEq a c :=
  ⟨fun j hj => (e1.1 j hj).trans (e2.1 j hj), fun k hk => by
    have hk' : k < pn b := by rw [e2.epn]; exact hk
    exact ⟨(e1.2.1 k hk').1.trans (e2.2.1 k hk).1, (e1.2.1 k hk').2.trans (e2.2.1 k hk).2⟩,
   fun j hj => (e1.2.2.1 j (by rw [e2.lo (by decide)]; exact hj)).trans (e2.2.2.1 j hj),
   fun j hj => (e1.2.2.2 j (by rw [e2.ern]; exact hj)).trans (e2.2.2.2 j hj)⟩
theorem PEq_lt {g g' : Page} (v : Val g) (h : ∀ j, j < 212 → g' j = g j) : PEq g' g := by
  obtain ⟨-, -, -, -, -, -, -, -, v9, v10, v11, -⟩ := id v
  have hp : pn g ≤ 40 := by unfold pn; omega
  have hr : rn g ≤ 20 := by unfold rn; omega
  exact ⟨fun j hj => h j (by omega), fun k hk => ⟨h _ (by omega), h _ (by omega)⟩, fun j hj => h _ (by omega), fun j hj => h _ (by omega)⟩
theorem Val_lt {g g' : Page} (v : Val g) (h : ∀ j, j < 212 → g' j = g j) : Val g' := Val_PEq v (PEq_lt v h)
def pushH (cnt : Nat) (F : Nat → Page) (h : Page) (t : Nat) : Page := if cnt < 14 then (if t = cnt then h else F t) else (if t = 13 then h else F (t + 1))
def ring (fr cnt t : Nat) : Nat := 2 + (fr + 14 - cnt + t) % 14
def HisMid (M1 : Mem) (h : Page) : Prop := ∃ fr cnt F, fr < 14 ∧ cnt ≤ 14 ∧ M1 113 1 = nI ((fr + 1) % 14) ∧ M1 113 2 = nI (min (cnt + 1) 14) ∧ M1 117 8 = nI cnt ∧ (∀ t, t < min (cnt + 1) 14 → St M1 (ring ((fr + 1) % 14) (min (cnt + 1) 14) t) (pushH cnt F h t)) ∧ ∀ t, t < cnt → PEq (F t) (fun j => M1 122 (212 * t + j)) ∧ Val (fun j => M1 122 (212 * t + j))
/-- the class has done its act, the reference has not -/
def MidC (M M1 : Mem) (h h' : Page) : Prop := St M1 0 h' ∧ M1 120 = M 120 ∧ HisMid M1 h ∧ Txt M1 ∧ Slo M1 ∧ RowOK M1
theorem HisMid.fr {M M' : Mem} {h : Page} (I : HisMid M h) (f : ∀ c, (12 ≤ c ∧ c < 96) ∨ c = 113 ∨ c = 122 → M' c = M c) (f2 : M' 117 8 = M 117 8) : HisMid M' h := by
  obtain ⟨fr, cnt, F, h1, h2, h3, h4, h5, h6, h7⟩ := I
  refine ⟨fr, cnt, F, h1, h2, by rw [f 113 (by omega)]; exact h3, by rw [f 113 (by omega)]; exact h4, by rw [f2]; exact h5, fun t ht => (h6 t ht).frame' (fun r hr => f _ ?_), fun t ht => ?_⟩
  · unfold ring; omega
  · rw [f 122 (by omega)]; exact h7 t ht
theorem MidC.fr {M M1 M' : Mem} {h h1 h' : Page} (I : MidC M M1 h h1) (s : St M' 0 h') (f : ∀ c, (12 ≤ c ∧ c < 111) ∨ (113 ≤ c ∧ c ≠ 117 ∧ c ≠ 119 ∧ c ≠ 121 ∧ c < 126) → M' c = M1 c) (f2 : M' 117 2 = M1 117 2) (f8 : M' 117 8 = M1 117 8) : MidC M M' h h' := by
  obtain ⟨-, b, c, d, e, r⟩ := I
  exact ⟨s, by rw [f 120 (by omega)]; exact b, c.fr (fun c h => f c (by omega)) f8, d.fr (fun c h => f c (by omega)) f2, e.fr (fun c h => f c (by omega)), r.fr (f 125 (by omega))⟩
theorem MidC.op {M M1 M' : Mem} {h h1 h' : Page} (I : MidC M M1 h h1) (s : St M' 0 h') (f : FrM M1 M' 0) : MidC M M' h h' :=
  I.fr s (fun c hc => f c (by omega) (by omega)) (by rw [f 117 (by omega) (by omega)]) (by rw [f 117 (by omega) (by omega)])
theorem MidC.mark {M M1 : Mem} {h h1 : Page} {x y : Int32} (I : MidC M M1 h h1) : MidC M (mup (mup M1 126 0 x) 117 0 y) h h1 :=
  I.fr (I.1.frame' (fun r hr => by rw [mup_ne (by omega), mup_ne (by omega)])) (fun c hc => by rw [mup_ne (by omega), mup_ne (by omega)]) (by rw [mup_self, updE, if_neg (by decide), mup_ne (by omega)]) (by rw [mup_self, updE, if_neg (by decide), mup_ne (by omega)])
theorem s_remember {M : Mem} {Q : Mem → Prop} {h : Page} (I : LInv M) (s : St M 0 h) (k : ∀ M1, MidC M M1 h h → Q M1) : wp_X0_remember 0 M Q := by
  obtain ⟨-, tx, ⟨fr, cnt, h1, h2, h3, h4, h5, h6⟩, sl, ro⟩ := id I
  simp only [wp_X0_remember, forall_eq]
  rw [h3, nI_clamp (by omega)]
  refine ⟨vp_in_nI h1 (by decide), s_copyFrom s (by omega) (fun M2 s2 f2 => ?_)⟩
  have m113 : M2 113 = M 113 := f2 113 (by omega)
  have f0 : ∀ c, c < 12 ∨ 96 ≤ c → M2 c = M c := fun c hc => f2 c (by omega)
  rw [m113, h3, show (14 : Int32) = nI 14 from rfl, nI_1, nI_leI (by omega) (by omega)]
  -- the two ends are one
  have fin : ∀ x, x = nI ((fr + 1) % 14) → Q (mup (mup M2 113 1 x) 113 2 (if mup M2 113 1 x 113 2 + 1 < nI 14 then mup M2 113 1 x 113 2 + 1 else nI 14)) := by
    intro x hx
    subst hx
    have e2 : mup M2 113 1 (nI ((fr + 1) % 14)) 113 2 = nI cnt := by rw [mup_self, updE, if_neg (by decide), m113, h4]
    have e3 : (if nI cnt + 1 < nI 14 then nI cnt + 1 else nI 14) = nI (min (cnt + 1) 14) := by
      have lt : nI (cnt + 1) < nI 14 ↔ cnt + 1 < 14 := nI_ltI (by omega) (by omega)
      rw [nI_1]
      by_cases c : cnt + 1 < 14
      · rw [if_pos (lt.mpr c), Nat.min_eq_left (by omega)]
      · rw [if_neg (fun z => c (lt.mp z)), Nat.min_eq_right (by omega)]
    rw [e2, e3]
    have m : ∀ c, c ≠ 113 → mup (mup M2 113 1 (nI ((fr + 1) % 14))) 113 2 (nI (min (cnt + 1) 14)) c = M2 c := fun c hc => by rw [mup_ne hc, mup_ne hc]
    have mm : ∀ c, c < 12 ∨ 96 ≤ c → c ≠ 113 → mup (mup M2 113 1 (nI ((fr + 1) % 14))) 113 2 (nI (min (cnt + 1) 14)) c = M c := fun c hc h => by rw [m c h, f0 c hc]
    refine k _ ⟨s.frame' (fun r hr => mm _ (by omega) (by omega)), mm _ (by omega) (by omega), ⟨fr, cnt, fun t => pv M (ring fr cnt t), h1, h2, ?_, ?_, ?_, fun t ht => ?_, fun t ht => ?_⟩, tx.fr (fun c hc => mm _ (by omega) (by omega)) (by rw [mm 117 (by omega) (by omega)]), sl.fr (fun c hc => mm _ (by omega) (by omega)), ro.fr (mm _ (by omega) (by omega))⟩
    · rw [mup_self, updE, if_neg (by decide), mup_self, updE, if_pos rfl]
    · rw [mup_self, updE, if_pos rfl]
    · rw [mm 117 (by omega) (by omega)]; exact h5
    · unfold pushH
      by_cases c : cnt < 14
      · rw [if_pos c]
        by_cases c2 : t = cnt
        · rw [if_pos c2]
          have : ring ((fr + 1) % 14) (min (cnt + 1) 14) t = 2 + fr := by unfold ring; omega
          rw [this]
          exact s2.frame' (fun r hr => m _ (by omega))
        · rw [if_neg c2]
          have e : ring ((fr + 1) % 14) (min (cnt + 1) 14) t = ring fr cnt t := by unfold ring; omega
          rw [e]
          obtain ⟨h', s', -⟩ := h6 t (by omega)
          have : St M (ring fr cnt t) (pv M (ring fr cnt t)) := ⟨rfl, s'.2⟩
          refine this.frame' (fun r hr => ?_)
          unfold ring
          rw [m _ (by omega)]
          exact f2 _ (by omega)
      · rw [if_neg c]
        by_cases c2 : t = 13
        · rw [if_pos c2]
          have : ring ((fr + 1) % 14) (min (cnt + 1) 14) t = 2 + fr := by unfold ring; omega
          rw [this]
          exact s2.frame' (fun r hr => m _ (by omega))
        · rw [if_neg c2]
          have e : ring ((fr + 1) % 14) (min (cnt + 1) 14) t = ring fr cnt (t + 1) := by unfold ring; omega
          rw [e]
          obtain ⟨h', s', -⟩ := h6 (t + 1) (by omega)
          have : St M (ring fr cnt (t + 1)) (pv M (ring fr cnt (t + 1))) := ⟨rfl, s'.2⟩
          refine this.frame' (fun r hr => ?_)
          unfold ring
          rw [m _ (by omega)]
          exact f2 _ (by omega)
    · obtain ⟨h', s', e', v'⟩ := h6 t ht
      have : pv M (ring fr cnt t) = h' := s'.1
      rw [mm 122 (by omega) (by omega)]
      exact ⟨by dsimp only; rw [this]; exact e', v'⟩
  refine ⟨fun c => fin 0 ?_, fun c => fin _ ?_⟩
  · have : fr + 1 = 14 := by omega
    rw [this]; rfl
  · rw [Nat.mod_eq_of_lt (by omega)]
/-- the reference's history after a note -/
theorem s5_note {M : Mem} {Q : Mem → Prop} {cnt : Nat} (hc : cnt ≤ 14) (e8 : M 117 8 = nI cnt) (k : ∀ M', (∀ c, c ≠ 117 → c ≠ 122 → M' c = M c) → (∀ j, j ≠ 8 → M' 117 j = M 117 j) → M' 117 8 = nI (min (cnt + 1) 14) →
    (∀ t, t < min (cnt + 1) 14 → ∀ j, j < 212 → M' 122 (212 * t + j) = pushH cnt (fun t j => M 122 (212 * t + j)) (M 120) t j) → Q M') : wp_X5_note M Q := by
  have e14 : nI cnt = 14 ↔ cnt = 14 := by
    rw [show (14 : Int32) = nI 14 from rfl, i32_eq, nI_toInt (by omega), nI_toInt (by omega)]; omega
  simp only [wp_X5_note, forall_eq]
  rw [e8, e14]
  refine ⟨fun c => ?_, fun c => ?_⟩
  · rw [show (212 : Int32) * nI cnt = nI (212 * cnt) from nI_mul 212 cnt]
    refine s5_copyPage (x := 0) (y := 212 * cnt) (by decide) (by decide) (by omega) (by decide) (by decide) ?_
    have m117 : va_up M 122 (cpF (M 120) (M 122) 0 (212 * cnt) 212) 117 = M 117 := vu_ne (by decide)
    rw [m117, e8, nI_1]
    refine k _ (fun c h1 h2 => by rw [mup_ne h1, vu_ne h2]) (fun j hj => by rw [mup_self, updE, if_neg hj, m117]) ?_ (fun t ht j hj => ?_)
    · rw [mup_self, updE, if_pos rfl, Nat.min_eq_left (by omega)]
    · rw [mup_ne (by decide), vu_self]
      unfold cpF pushH
      rw [if_pos (show cnt < 14 by omega)]
      by_cases c2 : t = cnt
      · rw [if_pos c2, if_pos (by omega)]; congr 1; omega
      · rw [if_neg c2, if_neg (by omega)]
  · subst c
    refine ⟨fun w M' => ∃ j, j ≤ 2756 ∧ w = nI j ∧ M' = va_up M 122 (fun z => if z < j then M 122 (z + 212) else M 122 z), fun w _ => 3000 - w.toNatClampNeg, ⟨0, Nat.zero_le _, rfl, ?_⟩, ?_⟩
    · have : (fun z => if z < 0 then M 122 (z + 212) else M 122 z) = M 122 := by
        funext z; rw [if_neg (by omega)]
      rw [this, vu_id]
    · rintro w M' ⟨j, hj, rfl, rfl⟩
      rw [show (2756 : Int32) = nI 2756 from rfl, nI_leI (by omega) (by omega), show (212 : Int32) = nI 212 from rfl, nI_addn, nI_clamp (by omega), nI_clamp (by omega)]
      refine ⟨fun c => ?_, fun c => ⟨vp_in_nI (by omega) (by decide), vp_in_nI (by omega) (by decide), ⟨j + 1, by omega, nI_1 j, ?_⟩, ?_⟩⟩
      · have : j = 2756 := by omega
        subst this
        have m117 : va_up M 122 (fun z => if z < 2756 then M 122 (z + 212) else M 122 z) 117 = M 117 := vu_ne (by decide)
        have e13 : (nI 14 - 1 : Int32) = nI 13 := rfl
        rw [m117, e8, e13, mup_self, updE, if_pos rfl, show nI 212 * nI 13 = nI (212 * 13) from nI_mul 212 13]
        refine s5_copyPage (x := 0) (y := 212 * 13) (by decide) (by decide) (by decide) (by decide) (by decide) ?_
        rw [mup_ne (by decide), vu_ne (by decide), mup_ne (by decide), vu_self, vu_ne (by decide), mup_self, updE, if_pos rfl, nI_1]
        refine k _ (fun c h1 h2 => by rw [mup_ne h1, vu_ne h2, mup_ne h1, vu_ne h2]) (fun j hj => by rw [mup_self, updE, if_neg hj, vu_ne (by decide), mup_self, updE, if_neg hj, m117]) ?_ (fun t ht j hj => ?_)
        · rw [mup_self, updE, if_pos rfl]; rfl
        · rw [mup_ne (by decide), vu_self]
          unfold cpF pushH
          rw [if_neg (show ¬ 14 < 14 by decide)]
          by_cases c2 : t = 13
          · subst c2
            rw [if_pos rfl, if_pos (by omega), show 212 * 13 + j - 212 * 13 + 0 = j by omega]
          · rw [if_neg c2, if_neg (by omega)]
            show (if 212 * t + j < 2756 then M 122 (212 * t + j + 212) else M 122 (212 * t + j)) = M 122 (212 * (t + 1) + j)
            rw [if_pos (by omega), show 212 * t + j + 212 = 212 * (t + 1) + j by omega]
      · rw [mup_vu2, vu_self]
        congr 1
        funext z
        simp only [updE]
        by_cases c1 : z = j
        · subst c1; rw [if_pos rfl, if_neg (show ¬ z + 212 < z by omega), if_pos (show z < z + 1 by omega)]
        · rw [if_neg c1]
          by_cases c2 : z < j
          · rw [if_pos c2, if_pos (by omega)]
          · rw [if_neg c2, if_neg (by omega)]
      · show 3000 - (nI j + 1).toNatClampNeg < 3000 - (nI j).toNatClampNeg
        rw [nI_1, nI_clamp (by omega), nI_clamp (by omega)]
        omega
theorem pushH_rel {cnt : Nat} {F G : Nat → Page} {h g : Page} (hc : cnt ≤ 14) (e : PEq h g) (v : Val g) (r : ∀ t, t < cnt → PEq (F t) (G t) ∧ Val (G t)) : ∀ t, t < min (cnt + 1) 14 → PEq (pushH cnt F h t) (pushH cnt G g t) ∧ Val (pushH cnt G g t) := by
  intro t ht
  unfold pushH
  by_cases c : cnt < 14
  · rw [if_pos c, if_pos c]
    by_cases c2 : t = cnt
    · rw [if_pos c2, if_pos c2]; exact ⟨e, v⟩
    · rw [if_neg c2, if_neg c2]; exact r t (by omega)
  · rw [if_neg c, if_neg c]
    by_cases c2 : t = 13
    · rw [if_pos c2, if_pos c2]; exact ⟨e, v⟩
    · rw [if_neg c2, if_neg c2]; exact r (t + 1) (by omega)
theorem s5_noteAct {M M2 : Mem} {Q : Mem → Prop} {h h' : Page} (I : MidC M M2 h h') (e : PEq h (M 120)) (v : Val (M 120)) (k : ∀ M3, M3 120 = M 120 → (∀ g', PEq h' g' → Val g' → LInv (va_up M3 120 g')) → RowOK M3 → M3 117 0 = M2 117 0 → M3 126 = M2 126 → Q M3) : wp_X5_note M2 Q := by
  obtain ⟨s, g0, ⟨fr, cnt, F, h1, h2, h3, h4, h5, h6, h7⟩, tx, sl, ro⟩ := I
  refine s5_note h2 h5 (fun M3 f1 f2 f3 f4 => ?_)
  refine k M3 (by rw [f1 120 (by decide) (by decide), g0]) (fun g' e' v' => ?_) (ro.fr (f1 125 (by decide) (by decide))) (f2 0 (by decide)) (f1 126 (by decide) (by decide))
  have m : ∀ c, c ≠ 117 → c ≠ 122 → c ≠ 120 → va_up M3 120 g' c = M2 c := fun c a b d => by rw [vu_ne d, f1 c a b]
  have m117 : va_up M3 120 g' 117 = M3 117 := vu_ne (by decide)
  have m122 : va_up M3 120 g' 122 = M3 122 := vu_ne (by decide)
  rw [g0] at f4
  have rel := pushH_rel (F := F) (G := fun t j => M2 122 (212 * t + j)) h2 e v h7
  refine ⟨⟨h', s.frame' (fun r hr => m _ (by omega) (by omega) (by omega)), by rw [vu_self]; exact e', by rw [vu_self]; exact v'⟩, tx.fr (fun c hc => m _ (by omega) (by omega) (by omega)) (by rw [m117, f2 2 (by decide)]), ⟨(fr + 1) % 14, min (cnt + 1) 14, by omega, by omega, by rw [m 113 (by decide) (by decide) (by decide)]; exact h3, by rw [m 113 (by decide) (by decide) (by decide)]; exact h4, by rw [m117]; exact f3, fun t ht => ?_⟩, sl.fr (fun c hc => m _ (by omega) (by omega) (by omega)), ro.fr (m _ (by decide) (by decide) (by decide))⟩
  obtain ⟨r1, r2⟩ := rel t ht
  refine ⟨pushH cnt F h t, (h6 t ht).frame' (fun r hr => ?_), ?_, ?_⟩
  · have hz : (2 + ((fr + 1) % 14 + 14 - min (cnt + 1) 14 + t) % 14) < 16 := by omega
    show va_up M3 120 g' (6 * (2 + ((fr + 1) % 14 + 14 - min (cnt + 1) 14 + t) % 14) + r) = M2 (6 * (2 + ((fr + 1) % 14 + 14 - min (cnt + 1) 14 + t) % 14) + r)
    generalize (2 + ((fr + 1) % 14 + 14 - min (cnt + 1) 14 + t) % 14) = z at hz
    exact m _ (by omega) (by omega) (by omega)
  · rw [m122]
    exact r1.trans (PEq_lt r2 (fun j hj => f4 t ht j hj)).symm
  · rw [m122]
    exact Val_lt r2 (fun j hj => f4 t ht j hj)
/-- the end of an act -/
theorem tail_act {r : Int32} {K : Mem → Prop} {M3 : Mem} {g' h' : Page} (c0 : M3 117 0 = 0) (c1 : M3 126 0 = r) (I : ∀ g', PEq h' g' → Val g' → LInv (va_up M3 120 g')) (e : PEq h' g') (v : Val g') (k : ∀ M', LInv M' → K M') : Tail 0 K r (va_up M3 120 g') :=
  tail_of (by rw [vu_ne (by decide), c0]) (fun _ => by rw [vu_ne (by decide), c1]) (k _ (I g' e v))
theorem mk0 {M : Mem} {x y : Int32} : mup (mup M 126 0 x) 117 0 y 117 0 = y := by rw [mup_self, updE, if_pos rfl]
theorem mk1 {M : Mem} {x y : Int32} : mup (mup M 126 0 x) 117 0 y 126 0 = x := by rw [mup_ne (by decide), mup_self, updE, if_pos rfl]

/-! ACTS -/
theorem PEq.trans {a b c : Page} (e1 : PEq a b) (e2 : PEq b c) : PEq a c :=
  ⟨fun j hj => (e1.1 j hj).trans (e2.1 j hj), fun k hk => by
    have hk' : k < pn b := by rw [e2.epn]; exact hk
    exact ⟨(e1.2.1 k hk').1.trans (e2.2.1 k hk).1, (e1.2.1 k hk').2.trans (e2.2.1 k hk).2⟩,
   fun j hj => (e1.2.2.1 j (by rw [e2.lo (by decide)]; exact hj)).trans (e2.2.2.1 j hj),
   fun j hj => (e1.2.2.2 j (by rw [e2.ern]; exact hj)).trans (e2.2.2.2 j hj)⟩

theorem d500 : (500 : Int32).toInt = 500 := rfl

theorem t_push {K : KS} {x : Int32} (h1 : 1 ≤ x.toInt ∧ x.toInt ≤ 9999) : Does (wp_L_tryPush x) K (gainF K.1 x 7) (gainF K.1 x, push1 K.1 K.2.1, K.2.2) := by
  intro M Q R k
  obtain ⟨⟨⟨h, s, e⟩, v⟩, -⟩ := id R
  simp only [wp_L_tryPush, wp_X4_push, wp_X4_pushFits, forall_eq]
  rw [i32_lt, i32_lt, i1, i9999]
  refine ⟨fun c => absurd c (by omega), fun c => ⟨fun c2 => absurd c2 (by omega), fun c2 => ⟨fun _ => ?_, fun z => absurd z (by decide)⟩⟩⟩
  refine s_remember R s e (fun M1 J => s_gain J.1 (fun M2 s2 f2 => ?_))
  have E := PEq_gain (x := x) e
  rw [s2.height, E.lo (by decide)]
  exact k _ ((J.op s2 f2.M).rep E (Val_gain v (by omega)))
theorem t_pushA {K : KS} {x : Int32} (h1 : ¬ (1 ≤ x.toInt ∧ x.toInt ≤ 9999)) : Does (wp_L_tryPush x) K (-1002) K := by
  intro M Q R k
  simp only [wp_L_tryPush, wp_X4_push, wp_X4_pushFits, forall_eq]
  rw [i32_lt, i32_lt, i1, i9999]
  exact ⟨fun c => ⟨fun z => absurd trivial z, fun _ => ⟨fun _ => k _ R, trivial⟩⟩, fun c => ⟨fun c2 => ⟨fun z => absurd trivial z, fun _ => ⟨fun _ => k _ R, trivial⟩⟩, fun c2 => absurd (by omega) h1⟩⟩
theorem t_nudge {K : KS} {x : Int32} (h1 : -600 ≤ x.toInt ∧ x.toInt ≤ 600) : Does (wp_L_tryNudge x) K (nudgeF K.1 x 5) (nudgeF K.1 x, push1 K.1 K.2.1, K.2.2) := by
  intro M Q R k
  obtain ⟨⟨⟨h, s, e⟩, v⟩, -⟩ := id R
  have d6 : (600 : Int32).toInt = 600 := rfl
  have dm6 : (-600 : Int32).toInt = -600 := rfl
  simp only [wp_L_tryNudge, wp_X4_nudge, wp_X4_nudgeFits, forall_eq]
  rw [i32_lt, i32_lt, d6, dm6]
  refine ⟨fun c => absurd c (by omega), fun c => ⟨fun c2 => absurd c2 (by omega), fun c2 => ⟨fun _ => ?_, fun z => absurd z (by decide)⟩⟩⟩
  refine s_remember R s e (fun M1 J => s_aside J.1 (fun M2 s2 f2 => ?_))
  have E := PEq_nudge (x := x) e
  rw [s2.dir, E.lo (by decide)]
  exact k _ ((J.op s2 f2.M).rep E (Val_nudge v (by omega)))
theorem t_nudgeA {K : KS} {x : Int32} (h1 : ¬ (-600 ≤ x.toInt ∧ x.toInt ≤ 600)) : Does (wp_L_tryNudge x) K (-1002) K := by
  intro M Q R k
  have d6 : (600 : Int32).toInt = 600 := rfl
  have dm6 : (-600 : Int32).toInt = -600 := rfl
  simp only [wp_L_tryNudge, wp_X4_nudge, wp_X4_nudgeFits, forall_eq]
  rw [i32_lt, i32_lt, d6, dm6]
  exact ⟨fun c => ⟨fun z => absurd trivial z, fun _ => ⟨fun _ => k _ R, trivial⟩⟩, fun c => ⟨fun c2 => ⟨fun z => absurd trivial z, fun _ => ⟨fun _ => k _ R, trivial⟩⟩, fun c2 => absurd (by omega) h1⟩⟩
theorem t_swing {K : KS} {x : Int32} (n : Nat) (hx : x = nI n) (hn : 1 ≤ n ∧ n ≤ 500) : Does (wp_L_trySwing x) K (turnN n (K.1, 0, -9)).2.1 ((turnN n (K.1, 0, -9)).1, push1 K.1 K.2.1, K.2.2) := by
  intro M Q R k
  obtain ⟨⟨⟨h, s, e⟩, v⟩, -⟩ := id R
  simp only [wp_L_trySwing, wp_X4_swing, wp_X4_turnsFit, forall_eq]
  have xi : x.toInt = n := by rw [hx, nI_toInt (by omega)]
  rw [i32_lt, i32_lt, i1, d500]
  refine ⟨fun c => absurd c (by omega), fun c => ⟨fun c2 => absurd c2 (by omega), fun c2 => ⟨fun _ => ?_, fun z => absurd z (by decide)⟩⟩⟩
  subst hx
  have vh := Val_PEq v e
  have T := PEq_turnN n (s := (h, 0, -9)) (t := (K.1, 0, -9)) v ⟨e, rfl⟩
  refine s_remember R s e (fun M1 J => s_beginM (by decide) J.1 vh (fun M2 s2 m2 f2 => s_turns (by decide) (by omega) s2 vh m2 (fun M3 s3 m3 f3 => ?_)))
  have J2 := (J.op s2 f2).op s3 f3
  rw [T.2]
  exact k _ (J2.rep T.1 (Val_turnN n (s := (K.1, 0, -9)) v))
theorem t_swingA {K : KS} {x : Int32} (h1 : ¬ (1 ≤ x.toInt ∧ x.toInt ≤ 500)) : Does (wp_L_trySwing x) K (-1002) K := by
  intro M Q R k
  simp only [wp_L_trySwing, wp_X4_swing, wp_X4_turnsFit, forall_eq]
  rw [i32_lt, i32_lt, i1, d500]
  exact ⟨fun c => ⟨fun z => absurd trivial z, fun _ => ⟨fun _ => k _ R, trivial⟩⟩, fun c => ⟨fun c2 => ⟨fun z => absurd trivial z, fun _ => ⟨fun _ => k _ R, trivial⟩⟩, fun c2 => absurd (by omega) h1⟩⟩
theorem t_setting {K : KS} {x y : Int32} (w : Nat) (hx : x = nI w) (ok : SetOK w y) : Does (wp_L_trySet x y) K (K.1 w) (setF K.1 w y, push1 K.1 K.2.1, K.2.2) := by
  intro M Q R k
  obtain ⟨⟨⟨h, s, e⟩, v⟩, -⟩ := id R
  have hw := ok.1
  simp only [wp_L_trySet, wp_X4_set, forall_eq]
  refine s_fits (fun w2 hx2 ok2 => ⟨fun _ => ?_, fun z => absurd z (by decide)⟩) (fun no => absurd ok (no w hw hx))
  subst hx
  refine s_remember R s e (fun M1 J => ⟨vp_in_nI hw (by decide), s_setting hw J.1 (fun M2 s2 f2 => ?_)⟩)
  rw [nI_clamp (by omega), J.1.set hw, e.lo (by omega)]
  exact k _ ((J.op s2 f2.M).rep (PEq_set hw e) (Val_set v ok))
theorem t_setA {K : KS} {x y : Int32} (no : ∀ w, x = nI w → ¬ SetOK w y) : Does (wp_L_trySet x y) K (-1002) K := by
  intro M Q R k
  simp only [wp_L_trySet, wp_X4_set, forall_eq]
  exact s_fits (fun w2 hx2 ok2 => absurd ok2 (no w2 hx2)) (fun no => ⟨fun z => absurd rfl z, fun _ => ⟨fun _ => k _ R, trivial⟩⟩)
theorem d40' : (40 : Int32).toInt = 40 := rfl
theorem d108' : (10800 : Int32).toInt = 10800 := rfl
theorem t_addPin {K : KS} {x : Int32} (v : Val K.1) (h1 : 0 ≤ x.toInt ∧ x.toInt < 10800) (hn : pn K.1 < 40) (hf : pinF K.1 x = -9) : Does (wp_L_tryAddPin x) K (putF K.1 x 9 - 1) (putF K.1 x, push1 K.1 K.2.1, K.2.2) := by
  intro M Q R k
  obtain ⟨⟨⟨h, s, e⟩, -⟩, -⟩ := id R
  obtain ⟨-, -, -, -, -, -, -, -, v9, -⟩ := id v
  have e9 : h 9 = K.1 9 := e.lo (by decide)
  have en := pn_of v9.1
  simp only [wp_L_tryAddPin, wp_X4_addPin, forall_eq]
  rw [s_lt0, i32_lt, d108', i32_le, d40', s.pins, e9]
  refine ⟨fun c => absurd c (by omega), fun c => ⟨fun c2 => ⟨fun c3 => absurd c3 (by omega), fun c3 => ?_⟩, fun c2 => absurd c2 (by omega)⟩⟩
  refine s_pinAt s (by rw [e9]; exact v9) ?_
  rw [PEq_pin e]
  refine ⟨fun c4 => ?_, fun c4 => absurd hf c4⟩
  have v9' : 0 ≤ (K.1 9).toInt ∧ (K.1 9).toInt < 40 := by omega
  refine s_remember R s e (fun M1 J => s_putPin J.1 (by rw [e9]; exact v9') (fun M2 s2 f2 => ?_))
  have E := PEq_put (p := x) v9' e
  rw [s2.pins, E.lo (by decide)]
  exact k _ ((J.op s2 f2.M).rep E (Val_put v hn h1 (pinF_none (by omega) hf)))
theorem t_addPinA {K : KS} {x : Int32} (h1 : ¬ (0 ≤ x.toInt ∧ x.toInt < 10800)) : Does (wp_L_tryAddPin x) K (-1002) K := by
  intro M Q R k
  simp only [wp_L_tryAddPin, wp_X4_addPin, forall_eq]
  rw [s_lt0, i32_lt, d108']
  exact ⟨fun c => ⟨fun _ => k _ R, fun z => absurd z (by decide), Or.inl trivial⟩, fun c => ⟨fun c2 => absurd ⟨by omega, c2⟩ h1, fun c2 => ⟨fun _ => k _ R, fun z => absurd z (by decide), Or.inl trivial⟩⟩⟩
theorem t_addPinS {K : KS} {x : Int32} (v : Val K.1) (h1 : 0 ≤ x.toInt ∧ x.toInt < 10800) (hn : pn K.1 = 40 ∨ ¬ pinF K.1 x = -9) : Does (wp_L_tryAddPin x) K (-1003) K := by
  intro M Q R k
  obtain ⟨⟨⟨h, s, e⟩, -⟩, -⟩ := id R
  obtain ⟨-, -, -, -, -, -, -, -, v9, -⟩ := id v
  have e9 : h 9 = K.1 9 := e.lo (by decide)
  have en := pn_of v9.1
  simp only [wp_L_tryAddPin, wp_X4_addPin, forall_eq]
  rw [s_lt0, i32_lt, d108', i32_le, d40', s.pins, e9]
  refine ⟨fun c => absurd c (by omega), fun c => ⟨fun c2 => ⟨fun c3 => ⟨fun z => absurd z (by decide), fun _ => k _ R, Or.inr trivial⟩, fun c3 => ?_⟩, fun c2 => absurd c2 (by omega)⟩⟩
  refine s_pinAt s (by rw [e9]; exact v9) ?_
  rw [PEq_pin e]
  refine ⟨fun c4 => absurd c4 (hn.resolve_left (by omega)), fun c4 => ⟨fun z => absurd z (by decide), fun _ => k _ R, Or.inr trivial⟩⟩
theorem t_removePin {K : KS} {x : Int32} (n : Nat) (v : Val K.1) (hx : x = nI n) (hn : n < pn K.1) : Does (wp_L_tryRemovePin x) K (K.1 (12 + 2 * n)) (removeF K.1 n, push1 K.1 K.2.1, K.2.2) := by
  intro M Q R k
  obtain ⟨⟨⟨h, s, e⟩, -⟩, -⟩ := id R
  obtain ⟨-, -, -, -, -, -, -, -, v9, v10, -⟩ := id v
  have hp : pn K.1 ≤ 40 := by unfold pn; omega
  have e9 : h 9 = K.1 9 := e.lo (by decide)
  have en := pn_of v9.1
  have xi : x.toInt = n := by rw [hx, nI_toInt (by omega)]
  simp only [wp_L_tryRemovePin, wp_X4_removePin, wp_X4_checkPin, forall_eq]
  rw [s_lt0, i32_lt, s.pins, e9, en]
  refine ⟨fun c => absurd c (by omega), fun c => ⟨fun c2 => ?_, fun c2 => absurd c2 (by omega)⟩⟩
  subst hx
  have E := PEq_take v9 v10.2 hn e
  refine s_remember R s e (fun M1 J => ⟨vp_in_nI (by omega) (by decide), s_takePin J.1 (by rw [e9]; exact v9) (by rw [e.epn]; exact hn) (fun M2 s2 f2 => ?_)⟩)
  rw [nI_clamp (by omega), J.1.place (by omega), (e.2.1 n hn).1]
  exact k _ ((J.op s2 f2.M).rep E (Val_remove v hn))
theorem t_removePinI {K : KS} {x : Int32} (v : Val K.1) (hx : ¬ (0 ≤ x.toInt ∧ x.toInt < pn K.1)) : Does (wp_L_tryRemovePin x) K (-1001) K := by
  intro M Q R k
  obtain ⟨⟨⟨h, s, e⟩, -⟩, -⟩ := id R
  obtain ⟨-, -, -, -, -, -, -, -, v9, -⟩ := id v
  have e9 : h 9 = K.1 9 := e.lo (by decide)
  have en := pn_of v9.1
  simp only [wp_L_tryRemovePin, wp_X4_removePin, wp_X4_checkPin, forall_eq]
  rw [s_lt0, i32_lt, s.pins, e9, en]
  exact ⟨fun c => ⟨fun _ => k _ R, trivial⟩, fun c => ⟨fun c2 => absurd ⟨by omega, c2⟩ hx, fun c2 => ⟨fun _ => k _ R, trivial⟩⟩⟩
theorem t_raise {K : KS} (v : Val K.1) : Does wp_X4_raise K (K.1 9 - standF K.1) (raiseF K.1, push1 K.1 K.2.1, K.2.2) := by
  intro M Q R k
  obtain ⟨⟨⟨h, s, e⟩, -⟩, -⟩ := id R
  obtain ⟨-, -, -, -, -, -, -, -, v9, -⟩ := id v
  have e9 : h 9 = K.1 9 := e.lo (by decide)
  have v9' : 0 ≤ (h 9).toInt ∧ (h 9).toInt ≤ 40 := by rw [e9]; exact v9
  have E := PEq_raise v9 e
  simp only [wp_X4_raise, forall_eq]
  refine s_remember R s e (fun M1 J => s_standing J.1 v9' (s_standAll J.1 v9' (fun M2 s2 f2 => ?_)))
  rw [J.1.pins, PEq_stand e, e9]
  exact k _ ((J.op s2 f2.M).rep E (Val_raise v))
theorem d20' : (20 : Int32).toInt = 20 := rfl
theorem t_read {K : KS} (v : Val K.1) (hn : rn K.1 < 20) : Does wp_L_tryRead K (readF K.1 11 - 1) (readF K.1, push1 K.1 K.2.1, K.2.2) := by
  intro M Q R k
  obtain ⟨⟨⟨h, s, e⟩, -⟩, -⟩ := id R
  obtain ⟨-, -, -, -, -, -, -, -, v9, v10, v11, -⟩ := id v
  have e11 : h 11 = K.1 11 := e.lo (by decide)
  have en := rn_of v11.1
  simp only [wp_L_tryRead, wp_X4_read, forall_eq]
  rw [i32_lt, s.reads, e11, d20']
  refine ⟨fun c => ?_, fun c => absurd (by omega) c⟩
  have v11' : 0 ≤ (K.1 11).toInt ∧ (K.1 11).toInt < 20 := by omega
  have E := PEq_read v11' v9 v10.2 e
  refine s_remember R s e (fun M1 J => s_noteReading J.1 (by rw [e11]; exact v11') (fun M2 s2 f2 => ?_))
  rw [s2.reads, E.lo (by decide)]
  exact k _ ((J.op s2 f2.M).rep E (Val_read v hn))
theorem t_readS {K : KS} (v : Val K.1) (hn : ¬ rn K.1 < 20) : Does wp_L_tryRead K (-1003) K := by
  intro M Q R k
  obtain ⟨⟨⟨h, s, e⟩, -⟩, -⟩ := id R
  obtain ⟨-, -, -, -, -, -, -, -, v9, v10, v11, -⟩ := id v
  have e11 : h 11 = K.1 11 := e.lo (by decide)
  have en := rn_of v11.1
  simp only [wp_L_tryRead, wp_X4_read, forall_eq]
  rw [i32_lt, s.reads, e11, d20']
  exact ⟨fun c => absurd (by omega) hn, fun c => ⟨fun _ => k _ R, trivial⟩⟩
def pop1 (H : Hs) : Hs := (H.1 - 1, fun t => H.2 (t + 1))
theorem t_undo {K : KS} (hc : 1 ≤ K.2.1.1) : Does wp_L_tryUndo K (nI (K.2.1.1 - 1)) (K.2.1.2 0, pop1 K.2.1, K.2.2) := by
  intro M Q R k
  obtain ⟨⟨⟨h, s, e⟩, v⟩, ⟨fr, h1, h2, h3, h4, h5⟩, sl, tx⟩ := id R
  obtain ⟨g, ⟨cnt, F⟩, S, T⟩ := K
  dsimp only at v h2 h4 h5 sl tx e hc k
  simp only [wp_L_tryUndo, wp_X4_undo, wp_X0_takeBack, forall_eq]
  rw [h4, h3, show (1 : Int32) = nI 1 from rfl, nI_leI (by omega) (by omega), show (0 : Int32) = nI 0 from rfl, nI_leI (by omega) (by omega)]
  have sub1 : ∀ a, 1 ≤ a → nI a - nI 1 = nI (a - 1) := fun a ha => by rw [Int32.sub_eq_iff_eq_add, nI_addn, Nat.sub_add_cancel ha]
  refine ⟨fun c => ?_, fun c => absurd (by omega) c⟩
  have fin : ∀ z, z = (fr + 13) % 14 → vp_in (mup (mup M 113 1 (nI z)) 113 2 (mup M 113 1 (nI z) 113 2 - nI 1) 113 1) 14 ∧ wp_X2_copyFrom 0 (2 + (mup (mup M 113 1 (nI z)) 113 2 (mup M 113 1 (nI z) 113 2 - nI 1) 113 1).toNatClampNeg) (mup (mup M 113 1 (nI z)) 113 2 (mup M 113 1 (nI z) 113 2 - nI 1)) (fun M6 => Q (M6 113 2) M6) := by
    intro z hz
    have ea : mup M 113 1 (nI z) 113 2 - nI 1 = nI (cnt - 1) := by rw [mup_self, updE, if_neg (by decide), h4, sub1 _ (by omega)]
    rw [ea]
    have eb : mup (mup M 113 1 (nI z)) 113 2 (nI (cnt - 1)) 113 1 = nI z := by rw [mup_self, updE, if_neg (by decide), mup_self, updE, if_pos rfl]
    have ec : mup (mup M 113 1 (nI z)) 113 2 (nI (cnt - 1)) 113 2 = nI (cnt - 1) := by rw [mup_self, updE, if_pos rfl]
    have m : ∀ c, c ≠ 113 → mup (mup M 113 1 (nI z)) 113 2 (nI (cnt - 1)) c = M c := fun c hc => by rw [mup_ne hc, mup_ne hc]
    rw [eb, nI_clamp (by omega)]
    generalize mup (mup M 113 1 (nI z)) 113 2 (nI (cnt - 1)) = M1 at eb ec m
    obtain ⟨hT, sT, eT, vT⟩ := h5 0 (by show 0 < cnt; omega)
    have rT : 2 + (fr + 13 - 0) % 14 = 2 + z := by omega
    rw [rT] at sT
    have sT1 : St M1 (2 + z) hT := sT.frame' (fun r hr => m _ (by omega))
    refine ⟨vp_in_nI (by omega) (by decide), s_copyFrom sT1 (by omega) (fun M2 s2 f2 => ?_)⟩
    have n : ∀ c, 6 ≤ c → M2 c = M1 c := fun c hc => f2 c (by omega)
    have nm : ∀ c, 6 ≤ c → c ≠ 113 → M2 c = M c := fun c a b => (n c a).trans (m c b)
    rw [n 113 (by decide), ec]
    refine k _ ⟨⟨⟨hT, s2, eT⟩, vT⟩, ⟨z, by omega, ?_, by rw [n 113 (by decide), eb], by rw [n 113 (by decide), ec]; rfl, fun t ht => ?_⟩, sl.fr (fun c hc => nm c (by omega) (by omega)), tx.fr (fun c hc => nm c (by omega) (by omega))⟩
    · show cnt - 1 ≤ 14
      omega
    · have ht' : t < cnt - 1 := ht
      obtain ⟨h', s', e', v'⟩ := h5 (t + 1) (by show t + 1 < cnt; omega)
      have er : 2 + (z + 13 - t) % 14 = 2 + (fr + 13 - (t + 1)) % 14 := by omega
      rw [er]
      have hlt : (fr + 13 - (t + 1)) % 14 < 14 := Nat.mod_lt _ (by decide)
      generalize (fr + 13 - (t + 1)) % 14 = y at s' hlt
      exact ⟨h', s'.frame' (fun r hr => nm _ (by omega) (by omega)), e', v'⟩
  refine ⟨fun c2 => fin 13 (by omega), fun c2 => ?_⟩
  rw [sub1 _ (by omega)]
  exact fin _ (by omega)
theorem t_undoS {K : KS} (hc : K.2.1.1 = 0) : Does wp_L_tryUndo K (-1003) K := by
  intro M Q R k
  obtain ⟨-, ⟨fr, h1, h2, h3, h4, h5⟩, -⟩ := id R
  rw [hc] at h4
  simp only [wp_L_tryUndo, wp_X4_undo, forall_eq]
  rw [h4]
  exact ⟨fun z => absurd z (by decide), fun c => ⟨fun _ => k _ R, trivial⟩⟩
def putS (S : Nat → Option Page) (n : Nat) (g : Page) : Nat → Option Page := fun i => if i = n then some g else S i
theorem t_save {K : KS} {x : Int32} (n : Nat) (hx : x = nI n) (hn : n < 2) : Does (wp_L_trySave x) K (K.1 8) (K.1, K.2.1, putS K.2.2.1 n K.1, K.2.2.2) := by
  intro M Q R k
  obtain ⟨⟨⟨h, s, e⟩, v⟩, hi, sl, tx⟩ := id R
  have xi : x.toInt = n := by rw [hx, nI_toInt (by omega)]
  simp only [wp_L_trySave, wp_X4_save, wp_X4_checkSlot, forall_eq]
  rw [s_lt0, i32_lt, d2']
  refine ⟨fun c => absurd c (by omega), fun c => ⟨fun c2 => ?_, fun c2 => absurd (by omega) c2⟩⟩
  subst hx
  rw [nI_clamp (by omega)]
  refine ⟨vp_in_nI hn (by decide), s_copyFrom s (by omega) (fun M1 s1 f1 => ⟨vp_in_nI hn (by decide), ?_⟩)⟩
  have n1 : ∀ c, c < 96 ∨ 108 ≤ c → M1 c = M c := fun c hc => f1 c (by omega)
  have e4 : mup M1 116 n 1 (6 * 0) 4 = h 8 := by rw [mup_ne (by decide), n1 _ (by omega), s.clock]
  rw [e4, e.lo (by decide)]
  have q0 : ∀ c, c < 96 ∨ 108 ≤ c → c ≠ 116 → mup M1 116 n 1 c = M c := fun c hc h => by rw [mup_ne h, n1 c hc]
  refine k _ ⟨⟨⟨h, s.frame' (fun r' hr => q0 _ (by omega) (by omega)), e⟩, v⟩, hi.fr (fun c hc => q0 c (by omega) (by omega)), fun i hi2 => ?_, tx.fr (fun c hc => q0 c (by omega) (by omega))⟩
  show (∀ x, (if i = n then some K.1 else K.2.2.1 i) = some x → _) ∧ ((if i = n then some K.1 else K.2.2.1 i) = none → _)
  have q116 : ∀ j, mup M1 116 n 1 116 j = if j = n then 1 else M 116 j := fun j => by rw [mup_self, updE, n1 116 (by omega)]
  rw [q116]
  by_cases c3 : i = n
  · subst c3
    rw [if_pos rfl, if_pos rfl]
    refine ⟨fun x hx => ?_, fun z => absurd z (by simp)⟩
    have : K.1 = x := Option.some.inj hx
    subst this
    exact ⟨rfl, v, h, s1.frame' (fun r' hr => mup_ne (by omega)), e⟩
  · rw [if_neg c3, if_neg c3]
    obtain ⟨a1, a2⟩ := sl i hi2
    refine ⟨fun x hx => ?_, a2⟩
    obtain ⟨b1, b2, h', s', e'⟩ := a1 x hx
    exact ⟨b1, b2, h', s'.frame' (fun r' hr => by rw [mup_ne (by omega)]; exact f1 _ (by omega)), e'⟩
theorem t_saveI {K : KS} {x : Int32} (hx : ¬ (0 ≤ x.toInt ∧ x.toInt < 2)) : Does (wp_L_trySave x) K (-1001) K := by
  intro M Q R k
  simp only [wp_L_trySave, wp_X4_save, wp_X4_checkSlot, forall_eq]
  rw [s_lt0, i32_lt, d2']
  exact ⟨fun c => ⟨fun _ => k _ R, trivial⟩, fun c => ⟨fun c2 => absurd ⟨by omega, c2⟩ hx, fun c2 => ⟨fun _ => k _ R, trivial⟩⟩⟩
def noH : Hs := (0, fun _ _ => 0)
theorem t_restore {K : KS} {x : Int32} (n : Nat) (g : Page) (hx : x = nI n) (hn : n < 2) (hs : K.2.2.1 n = some g) : Does (wp_L_tryRestore x) K (g 8) (g, noH, K.2.2) := by
  intro M Q R k
  obtain ⟨-, ⟨fr, h1, h2, h3, h4, h5⟩, sl, tx⟩ := id R
  have xi : x.toInt = n := by rw [hx, nI_toInt (by omega)]
  simp only [wp_L_tryRestore, wp_X4_restore, wp_X4_checkSlot, wp_X0_forget, forall_eq]
  rw [s_lt0, i32_lt, d2']
  refine ⟨fun c => absurd c (by omega), fun c => ⟨fun c2 => ?_, fun c2 => absurd (by omega) c2⟩⟩
  subst hx
  rw [nI_clamp (by omega)]
  obtain ⟨a1, v, h, s, e⟩ := (sl n hn).1 g hs
  rw [a1]
  refine ⟨vp_in_nI hn (by decide), fun c3 => ⟨vp_in_nI hn (by decide), ?_⟩, fun c3 => absurd c3 (by decide)⟩
  refine s_copyFrom s (by omega) (fun M1 s1 f1 => ?_)
  have n1 : ∀ c, 6 ≤ c → M1 c = M c := fun c hc => f1 c (by omega)
  have e4 : mup M1 113 2 0 (6 * 0) 4 = h 8 := by rw [mup_ne (by decide), s1.clock]
  rw [e4, e.lo (by decide)]
  have q : ∀ c, 6 ≤ c → c ≠ 113 → mup M1 113 2 0 c = M c := fun c a b => by rw [mup_ne b, n1 c a]
  refine k _ ⟨⟨⟨h, s1.frame' (fun r' hr => mup_ne (by omega)), e⟩, v⟩, ⟨fr, h1, Nat.zero_le _, by rw [mup_self, updE, if_neg (by decide), n1 113 (by decide), h3], by rw [mup_self, updE, if_pos rfl]; rfl, fun t ht => absurd ht (by show ¬ t < 0; omega)⟩, sl.fr (fun c hc => q c (by omega) (by omega)), tx.fr (fun c hc => q c (by omega) (by omega))⟩
theorem t_restoreI {K : KS} {x : Int32} (hx : ¬ (0 ≤ x.toInt ∧ x.toInt < 2)) : Does (wp_L_tryRestore x) K (-1001) K := by
  intro M Q R k
  simp only [wp_L_tryRestore, wp_X4_restore, wp_X4_checkSlot, forall_eq]
  rw [s_lt0, i32_lt, d2']
  exact ⟨fun c => ⟨fun _ => k _ R, fun z => absurd z (by decide), Or.inl trivial⟩, fun c => ⟨fun c2 => absurd ⟨by omega, c2⟩ hx, fun c2 => ⟨fun _ => k _ R, fun z => absurd z (by decide), Or.inl trivial⟩⟩⟩
theorem t_restoreS {K : KS} {x : Int32} (n : Nat) (hx : x = nI n) (hn : n < 2) (hs : K.2.2.1 n = none) : Does (wp_L_tryRestore x) K (-1003) K := by
  intro M Q R k
  obtain ⟨-, -, sl, -⟩ := id R
  have xi : x.toInt = n := by rw [hx, nI_toInt (by omega)]
  simp only [wp_L_tryRestore, wp_X4_restore, wp_X4_checkSlot, forall_eq]
  rw [s_lt0, i32_lt, d2']
  refine ⟨fun c => absurd c (by omega), fun c => ⟨fun c2 => ?_, fun c2 => absurd (by omega) c2⟩⟩
  subst hx
  rw [nI_clamp (by omega), (sl n hn).2 hs]
  exact ⟨vp_in_nI hn (by decide), fun c3 => absurd rfl c3, fun c3 => ⟨fun z => absurd z (by decide), fun _ => k _ R, Or.inr trivial⟩⟩

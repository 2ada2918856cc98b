theorem MidC.mark0 {M M1 : Mem} {h h1 : Page} {y : Int32} (I : MidC M M1 h h1) : MidC M (mup M1 117 0 y) h h1 :=
  I.fr (I.1.frame' (fun r hr => by rw [mup_ne (by omega)])) (fun c hc => by rw [mup_ne (by omega)]) (by rw [mup_self, updE, if_neg (by decide)]) (by rw [mup_self, updE, if_neg (by decide)])
theorem d500 : (500 : Int32).toInt = 500 := rfl
/-- push -/
theorem c_push {x : Int32} {M : Mem} {V : Prop} {K : Mem → Prop} (I : LInv M) (hv : V) (k : ∀ M', LInv M' → K M') :
    wp_L_push x M (fun r7 M6 => V ∧ wp_X5_push x M6 (Tail r7 K)) := by
  obtain ⟨⟨h, s, e, v⟩, -⟩ := id I
  have bad : ¬ (1 ≤ x.toInt ∧ x.toInt ≤ 9999) → V ∧ wp_X5_push x M (Tail 1 K) := fun c => by
    refine ⟨hv, ?_⟩
    simp only [wp_X5_push, forall_eq]
    refine s5_in32 1 9999 rfl rfl (fun a b => absurd ⟨a, b⟩ c) (fun _ => ⟨fun _ => s5_ref1 ⟨fun z => absurd z (by decide), fun _ => tail_ref I (by decide) k⟩, fun z => absurd rfl z⟩)
  simp only [wp_L_push, wp_X4_push, wp_X4_pushFits, forall_eq]
  rw [i32_lt, i32_lt, i1, i9999]
  refine ⟨fun c => ⟨fun z => absurd trivial z, fun _ => ⟨fun _ => bad (by omega), trivial⟩⟩, fun c => ⟨fun c2 => ⟨fun z => absurd trivial z, fun _ => ⟨fun _ => bad (by omega), trivial⟩⟩, fun c2 => ⟨fun _ => ?_, fun z => absurd z (by decide)⟩⟩⟩
  refine s_remember I s (fun M1 J => s_gain J.1 (fun M2 s2 f2 => ?_))
  have J2 := J.op s2 f2.M
  rw [s2.height]
  refine ⟨hv, ?_⟩
  simp only [wp_X5_push, forall_eq]
  refine s5_in32 1 9999 rfl rfl (fun _ _ => ⟨fun z => absurd z (by decide), fun _ => s5_ref0 ⟨fun _ => s5_noteAct J2.mark e v (fun M3 g3 L3 r3 z0 z1 => s5_pushOn g3 ?_), fun z => absurd rfl z⟩⟩) (fun c => absurd ⟨by omega, by omega⟩ c)
  rw [vu_self]
  exact tail_act (by rw [z0, mk0]) (by rw [z1, mk1, (PEq_gain e).lo (by decide)]) L3 (PEq_gain e) (Val_gain v (by omega)) k
/-- nudge -/
theorem c_nudge {x : Int32} {M : Mem} {V : Prop} {K : Mem → Prop} (I : LInv M) (hv : V) (k : ∀ M', LInv M' → K M') :
    wp_L_nudge x M (fun r7 M6 => V ∧ wp_X5_nudge x M6 (Tail r7 K)) := by
  obtain ⟨⟨h, s, e, v⟩, -⟩ := id I
  have d6 : (600 : Int32).toInt = 600 := rfl
  have dm6 : (-600 : Int32).toInt = -600 := rfl
  have bad : ¬ (-600 ≤ x.toInt ∧ x.toInt ≤ 600) → V ∧ wp_X5_nudge x M (Tail 1 K) := fun c => by
    refine ⟨hv, ?_⟩
    simp only [wp_X5_nudge, wp_X5_isNudge, forall_eq]
    refine s5_in32 (-600) 600 rfl rfl (fun a b => absurd ⟨a, b⟩ c) (fun _ => ⟨rfl, fun _ => s5_ref1 ⟨fun z => absurd z (by decide), fun _ => tail_ref I (by decide) k⟩, fun z => absurd rfl z⟩)
  simp only [wp_L_nudge, wp_X4_nudge, wp_X4_nudgeFits, forall_eq]
  rw [i32_lt, i32_lt, d6, dm6]
  refine ⟨fun c => ⟨fun z => absurd trivial z, fun _ => ⟨fun _ => bad (by omega), trivial⟩⟩, fun c => ⟨fun c2 => ⟨fun z => absurd trivial z, fun _ => ⟨fun _ => bad (by omega), trivial⟩⟩, fun c2 => ⟨fun _ => ?_, fun z => absurd z (by decide)⟩⟩⟩
  refine s_remember I s (fun M1 J => s_aside J.1 (fun M2 s2 f2 => ?_))
  have J2 := J.op s2 f2.M
  rw [s2.dir]
  refine ⟨hv, ?_⟩
  simp only [wp_X5_nudge, wp_X5_isNudge, forall_eq]
  refine s5_in32 (-600) 600 rfl rfl (fun _ _ => ⟨rfl, fun z => absurd z (by decide), fun _ => s5_ref0 ⟨fun _ => s5_noteAct J2.mark e v (fun M3 g3 L3 r3 z0 z1 => s5_nudgeOn g3 ?_), fun z => absurd rfl z⟩⟩) (fun c => absurd ⟨by omega, by omega⟩ c)
  rw [vu_self]
  exact tail_act (by rw [z0, mk0]) (by rw [z1, mk1, (PEq_nudge e).lo (by decide)]) L3 (PEq_nudge e) (Val_nudge v (by omega)) k
/-- swing -/
theorem c_swing {x : Int32} {M : Mem} {V : Prop} {K : Mem → Prop} (I : LInv M) (hv : V) (k : ∀ M', LInv M' → K M') :
    wp_L_swing x M (fun r7 M6 => V ∧ wp_X5_swing x M6 (Tail r7 K)) := by
  obtain ⟨⟨h, s, e, v⟩, -⟩ := id I
  have bad : ¬ (1 ≤ x.toInt ∧ x.toInt ≤ 500) → V ∧ wp_X5_swing x M (Tail 1 K) := fun c => by
    refine ⟨hv, ?_⟩
    simp only [wp_X5_swing, forall_eq]
    refine s5_in32 1 500 rfl rfl (fun a b => absurd ⟨a, b⟩ c) (fun _ => ⟨fun _ => s5_ref1 ⟨fun z => absurd z (by decide), fun _ => tail_ref I (by decide) k⟩, fun z => absurd rfl z⟩)
  simp only [wp_L_swing, wp_X4_swing, wp_X4_turnsFit, forall_eq]
  rw [i32_lt, i32_lt, i1, d500]
  refine ⟨fun c => ⟨fun z => absurd trivial z, fun _ => ⟨fun _ => bad (by omega), trivial⟩⟩, fun c => ⟨fun c2 => ⟨fun z => absurd trivial z, fun _ => ⟨fun _ => bad (by omega), trivial⟩⟩, fun c2 => ⟨fun _ => ?_, fun z => absurd z (by decide)⟩⟩⟩
  have hx : x = nI x.toInt.toNat := nI_of_toInt (by omega)
  have hx2 : 1 ≤ x.toInt.toNat ∧ x.toInt.toNat ≤ 500 := by omega
  generalize x.toInt.toNat = n at hx hx2
  subst hx
  have vh := Val_PEq v e
  have T := PEq_turnN n (s := (h, 0, -9)) (t := (M 120, 0, -9)) v ⟨e, rfl⟩
  refine s_remember I s (fun M1 J => s_beginM (by decide) J.1 vh (fun M2 s2 m2 f2 => s_turns (by decide) (by omega) s2 vh m2 (fun M3 s3 m3 f3 => ?_)))
  have J2 := (J.op s2 f2).op s3 f3
  refine ⟨hv, ?_⟩
  simp only [wp_X5_swing, forall_eq]
  refine s5_in32 1 500 rfl rfl (fun _ _ => ⟨fun z => absurd z (by decide), fun _ => s5_ref0 ⟨fun _ => s5_noteAct J2.mark e v (fun M3 g3 L3 r3 z0 z1 => s5_turnsOn (by decide) (by omega) g3 v r3 ?_), fun z => absurd rfl z⟩⟩) (fun c => absurd ⟨by omega, by omega⟩ c)
  exact tail_act (by rw [z0, mk0]) (by rw [z1, mk1, T.2]) L3 T.1 (Val_turnN n (s := (M 120, 0, -9)) v) k
/-- set -/
theorem c_set {x y : Int32} {M : Mem} {V1 V2 : Prop} {K : Mem → Prop} (I : LInv M) (hv1 : V1) (hv2 : V2) (k : ∀ M', LInv M' → K M') :
    wp_L_set x y M (fun r7 M6 => V1 ∧ V2 ∧ wp_X5_set x y M6 (Tail r7 K)) := by
  obtain ⟨⟨h, s, e, v⟩, -⟩ := id I
  simp only [wp_L_set, wp_X4_set, forall_eq]
  refine s_fits (fun w hx ok => ⟨fun _ => ?_, fun z => absurd z (by decide)⟩) (fun no => ⟨fun z => absurd rfl z, fun _ => ⟨fun _ => ⟨hv1, hv2, ?_⟩, trivial⟩⟩)
  · subst hx
    have hw := ok.1
    refine s_remember I s (fun M1 J => ⟨vp_in_nI hw (by decide), s_setting hw J.1 (fun M2 s2 f2 => ?_)⟩)
    have J2 := J.op s2 f2.M
    rw [nI_clamp (by omega), J.1.set hw]
    refine ⟨hv1, hv2, ?_⟩
    simp only [wp_X5_set, forall_eq]
    refine s5_fits (fun w2 h2 _ => ⟨fun z => absurd z (by decide), fun _ => s5_ref0 ⟨fun _ => s5_noteAct J2.mark e v (fun M3 g3 L3 r3 z0 z1 => ⟨vp212 (by omega), s5_setOn hw g3 ?_⟩), fun z => absurd rfl z⟩⟩) (fun no => absurd ok (no w hw rfl))
    rw [nI_clamp (by omega), g3]
    exact tail_act (by rw [z0, mk0]) (by rw [z1, mk1, e.lo (by omega)]) L3 (PEq_set hw e) (Val_set v ok) k
  · simp only [wp_X5_set, forall_eq]
    refine s5_fits (fun w hx ok => absurd ok (no w ok.1 hx)) (fun _ => ⟨fun _ => s5_ref1 ⟨fun z => absurd z (by decide), fun _ => tail_ref I (by decide) k⟩, fun z => absurd rfl z⟩)
/-- addPin -/
theorem c_addPin {x : Int32} {M : Mem} {V : Prop} {K : Mem → Prop} (I : LInv M) (hv : V) (k : ∀ M', LInv M' → K M') :
    wp_L_addPin x M (fun r7 M6 => V ∧ wp_X5_addPin x M6 (Tail r7 K)) := by
  obtain ⟨⟨h, s, e, v⟩, -⟩ := id I
  obtain ⟨-, -, -, -, -, -, -, -, v9, -⟩ := id v
  have e9 : h 9 = M 120 9 := e.lo (by decide)
  have d40 : (40 : Int32).toInt = 40 := rfl
  have d108 : (10800 : Int32).toInt = 10800 := rfl
  have i40 : M 120 9 = 40 ↔ (M 120 9).toInt = 40 := by rw [i32_eq, d40]
  have hp : pn (M 120) ≤ 40 := by unfold pn; omega
  have bad1 : ¬ (0 ≤ x.toInt ∧ x.toInt ≤ 10799) → V ∧ wp_X5_addPin x M (Tail 1 K) := fun c => by
    refine ⟨hv, ?_⟩
    simp only [wp_X5_addPin, forall_eq]
    refine s5_in32 0 10799 rfl rfl (fun a b => absurd ⟨a, b⟩ c) (fun _ => ⟨fun z => absurd rfl z, fun _ => s5_ref1 ⟨fun z => absurd z (by decide), fun _ => tail_ref I (by decide) k⟩⟩)
  have bad2 : 0 ≤ x.toInt → x.toInt ≤ 10799 → ((M 120 9).toInt = 40 ∨ pinF (M 120) x ≠ -9) → V ∧ wp_X5_addPin x M (Tail 2 K) := fun a b c => by
    refine ⟨hv, ?_⟩
    simp only [wp_X5_addPin, forall_eq]
    refine s5_in32 0 10799 rfl rfl (fun _ _ => ⟨fun _ => ?_, fun z => absurd z (by decide)⟩) (fun z => absurd ⟨a, b⟩ z)
    rw [i40]
    refine ⟨fun _ => s5_ref2 ⟨fun z => absurd z (by decide), fun _ => tail_ref I (by decide) k⟩, fun c2 => s5_pinAt rfl v9 ⟨fun z => absurd z (c.resolve_left c2), fun _ => s5_ref2 ⟨fun z => absurd z (by decide), fun _ => tail_ref I (by decide) k⟩⟩⟩
  simp only [wp_L_addPin, wp_X4_addPin, forall_eq]
  rw [s_lt0, i32_lt, d108, i32_le, d40, s.pins, e9]
  refine ⟨fun c => ⟨fun _ => bad1 (by omega), fun z => absurd z (by decide), Or.inl trivial⟩, fun c => ⟨fun c2 => ⟨fun c3 => ⟨fun z => absurd z (by decide), fun _ => bad2 (by omega) (by omega) (Or.inl (by omega)), Or.inr trivial⟩, fun c3 => ?_⟩, fun c2 => ⟨fun _ => bad1 (by omega), fun z => absurd z (by decide), Or.inl trivial⟩⟩⟩
  refine s_pinAt s (by rw [e9]; exact v9) ?_
  rw [PEq_pin e]
  refine ⟨fun c4 => ?_, fun c4 => ⟨fun z => absurd z (by decide), fun _ => bad2 (by omega) (by omega) (Or.inr c4), Or.inr trivial⟩⟩
  have v9' : 0 ≤ (M 120 9).toInt ∧ (M 120 9).toInt < 40 := by omega
  refine s_remember I s (fun M1 J => s_putPin J.1 (by rw [e9]; exact v9') (fun M2 s2 f2 => ?_))
  have J2 := J.op s2 f2.M
  have E := PEq_put (p := x) v9' e
  rw [s2.pins]
  refine ⟨hv, ?_⟩
  simp only [wp_X5_addPin, forall_eq]
  have m120 : ∀ a, mup M2 126 0 a 120 = M 120 := fun a => by rw [mup_ne (by decide), J2.2.1]
  refine s5_in32 0 10799 rfl rfl (fun _ _ => ⟨fun _ => ?_, fun z => absurd z (by decide)⟩) (fun z => absurd ⟨by omega, by omega⟩ z)
  rw [m120, i40]
  refine ⟨fun z => absurd z (by omega), fun _ => s5_pinAt (m120 _) v9 ?_⟩
  refine ⟨fun _ => s5_ref0 ⟨fun _ => s5_noteAct J2.mark e v (fun M3 g3 L3 r3 z0 z1 => s5_putPin g3 v9' ?_), fun z => absurd rfl z⟩, fun z => absurd c4 z⟩
  rw [vu_self]
  exact tail_act (by rw [z0, mk0]) (by rw [z1, mk1, E.lo (by decide)]) L3 E (Val_put v (by unfold pn; omega) (by omega) (pinF_none hp c4)) k
